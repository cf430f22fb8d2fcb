theorem dX10_number_10 : decode cX10_number 10 = .ok (.invokevirtual 117, 3) := by decide +kernel
theorem dX10_number_13 : decode cX10_number 13 = .ok (.aload_n 0, 1) := by decide +kernel
theorem dX10_number_14 : decode cX10_number 14 = .ok (.getfield 104, 3) := by decide +kernel
theorem dX10_number_17 : decode cX10_number 17 = .ok (.istore_n 3, 1) := by decide +kernel
theorem dX10_number_18 : decode cX10_number 18 = .ok (.iconst 0, 1) := by decide +kernel
theorem dX10_number_19 : decode cX10_number 19 = .ok (.istore 4, 2) := by decide +kernel
theorem dX10_number_21 : decode cX10_number 21 = .ok (.aload_n 0, 1) := by decide +kernel
theorem dX10_number_22 : decode cX10_number 22 = .ok (.aload_n 0, 1) := by decide +kernel
theorem dX10_number_23 : decode cX10_number 23 = .ok (.getfield 104, 3) := by decide +kernel
theorem dX10_number_26 : decode cX10_number 26 = .ok (.invokevirtual 107, 3) := by decide +kernel
theorem dX10_number_29 : decode cX10_number 29 = .ok (.invokestatic 120, 3) := by decide +kernel
theorem dX10_number_32 : decode cX10_number 32 = .ok (.ifCond .ne 12, 3) := by decide +kernel
theorem dX10_number_35 : decode cX10_number 35 = .ok (.aload_n 0, 1) := by decide +kernel
theorem dX10_number_36 : decode cX10_number 36 = .ok (.iconst 1, 1) := by decide +kernel
theorem dX10_number_37 : decode cX10_number 37 = .ok (.aload_n 0, 1) := by decide +kernel
theorem dX10_number_38 : decode cX10_number 38 = .ok (.getfield 104, 3) := by decide +kernel
theorem dX10_number_41 : decode cX10_number 41 = .ok (.invokevirtual 124, 3) := by decide +kernel
theorem dX10_number_44 : decode cX10_number 44 = .ok (.aload_n 0, 1) := by decide +kernel
theorem dX10_number_45 : decode cX10_number 45 = .ok (.aload_n 0, 1) := by decide +kernel
theorem dX10_number_46 : decode cX10_number 46 = .ok (.getfield 104, 3) := by decide +kernel
theorem dX10_number_49 : decode cX10_number 49 = .ok (.invokevirtual 107, 3) := by decide +kernel
theorem dX10_number_52 : decode cX10_number 52 = .ok (.invokestatic 120, 3) := by decide +kernel
theorem dX10_number_55 : decode cX10_number 55 = .ok (.ifCond .eq 51, 3) := by decide +kernel
theorem dX10_number_58 : decode cX10_number 58 = .ok (.bipush 10, 2) := by decide +kernel
theorem dX10_number_60 : decode cX10_number 60 = .ok (.iload 4, 2) := by decide +kernel
theorem dX10_number_62 : decode cX10_number 62 = .ok (.imul, 1) := by decide +kernel
theorem dX10_number_63 : decode cX10_number 63 = .ok (.aload_n 0, 1) := by decide +kernel
theorem dX10_number_64 : decode cX10_number 64 = .ok (.aload_n 0, 1) := by decide +kernel
theorem dX10_number_65 : decode cX10_number 65 = .ok (.getfield 104, 3) := by decide +kernel
theorem dX10_number_68 : decode cX10_number 68 = .ok (.invokevirtual 107, 3) := by decide +kernel
theorem dX10_number_71 : decode cX10_number 71 = .ok (.iadd, 1) := by decide +kernel
theorem dX10_number_72 : decode cX10_number 72 = .ok (.bipush 48, 2) := by decide +kernel
theorem dX10_number_74 : decode cX10_number 74 = .ok (.isub, 1) := by decide +kernel
theorem dX10_number_75 : decode cX10_number 75 = .ok (.istore 4, 2) := by decide +kernel
theorem dX10_number_77 : decode cX10_number 77 = .ok (.iload 4, 2) := by decide +kernel
theorem dX10_number_79 : decode cX10_number 79 = .ok (.ldc 128, 2) := by decide +kernel
theorem dX10_number_81 : decode cX10_number 81 = .ok (.if_icmp .le 8, 3) := by decide +kernel
theorem dX10_number_84 : decode cX10_number 84 = .ok (.ldc 128, 2) := by decide +kernel
theorem dX10_number_86 : decode cX10_number 86 = .ok (.goto 5, 3) := by decide +kernel
theorem dX10_number_89 : decode cX10_number 89 = .ok (.iload 4, 2) := by decide +kernel
theorem dX10_number_91 : decode cX10_number 91 = .ok (.istore 4, 2) := by decide +kernel
theorem dX10_number_93 : decode cX10_number 93 = .ok (.aload_n 0, 1) := by decide +kernel
theorem dX10_number_94 : decode cX10_number 94 = .ok (.dup, 1) := by decide +kernel
theorem dX10_number_95 : decode cX10_number 95 = .ok (.getfield 104, 3) := by decide +kernel
theorem dX10_number_98 : decode cX10_number 98 = .ok (.iconst 1, 1) := by decide +kernel
theorem dX10_number_99 : decode cX10_number 99 = .ok (.iadd, 1) := by decide +kernel
theorem dX10_number_100 : decode cX10_number 100 = .ok (.putfield 104, 3) := by decide +kernel
theorem dX10_number_103 : decode cX10_number 103 = .ok (.goto (-59), 3) := by decide +kernel
theorem dX10_number_106 : decode cX10_number 106 = .ok (.iload 4, 2) := by decide +kernel
theorem dX10_number_108 : decode cX10_number 108 = .ok (.iload_n 1, 1) := by decide +kernel
theorem dX10_number_109 : decode cX10_number 109 = .ok (.iload_n 2, 1) := by decide +kernel
theorem dX10_number_110 : decode cX10_number 110 = .ok (.invokestatic 129, 3) := by decide +kernel
theorem dX10_number_113 : decode cX10_number 113 = .ok (.ifCond .ne 9, 3) := by decide +kernel
theorem dX10_number_116 : decode cX10_number 116 = .ok (.aload_n 0, 1) := by decide +kernel
theorem dX10_number_117 : decode cX10_number 117 = .ok (.iconst 2, 1) := by decide +kernel
theorem dX10_number_118 : decode cX10_number 118 = .ok (.iload_n 3, 1) := by decide +kernel
theorem dX10_number_119 : decode cX10_number 119 = .ok (.invokevirtual 124, 3) := by decide +kernel
theorem dX10_number_122 : decode cX10_number 122 = .ok (.aload_n 0, 1) := by decide +kernel
theorem dX10_number_123 : decode cX10_number 123 = .ok (.getfield 111, 3) := by decide +kernel
theorem dX10_number_126 : decode cX10_number 126 = .ok (.ifCond .ne 8, 3) := by decide +kernel
theorem dX10_number_129 : decode cX10_number 129 = .ok (.iload 4, 2) := by decide +kernel
theorem dX10_number_131 : decode cX10_number 131 = .ok (.goto 4, 3) := by decide +kernel
theorem dX10_number_134 : decode cX10_number 134 = .ok (.iconst 0, 1) := by decide +kernel
theorem dX10_number_135 : decode cX10_number 135 = .ok (.ireturn, 1) := by decide +kernel
theorem dX10_wordHere_0 : decode cX10_wordHere 0 = .ok (.aload_n 0, 1) := by decide +kernel
theorem dX10_wordHere_1 : decode cX10_wordHere 1 = .ok (.invokevirtual 117, 3) := by decide +kernel
theorem dX10_wordHere_4 : decode cX10_wordHere 4 = .ok (.iconst 0, 1) := by decide +kernel
theorem dX10_wordHere_5 : decode cX10_wordHere 5 = .ok (.istore_n 1, 1) := by decide +kernel
theorem dX10_wordHere_6 : decode cX10_wordHere 6 = .ok (.iconst 0, 1) := by decide +kernel
theorem dX10_wordHere_7 : decode cX10_wordHere 7 = .ok (.istore_n 2, 1) := by decide +kernel
theorem dX10_wordHere_8 : decode cX10_wordHere 8 = .ok (.aload_n 0, 1) := by decide +kernel
theorem dX10_wordHere_9 : decode cX10_wordHere 9 = .ok (.aload_n 0, 1) := by decide +kernel
theorem dX10_wordHere_10 : decode cX10_wordHere 10 = .ok (.getfield 104, 3) := by decide +kernel
theorem dX10_wordHere_13 : decode cX10_wordHere 13 = .ok (.iload_n 2, 1) := by decide +kernel
theorem dX10_wordHere_14 : decode cX10_wordHere 14 = .ok (.iadd, 1) := by decide +kernel
theorem dX10_wordHere_15 : decode cX10_wordHere 15 = .ok (.invokevirtual 107, 3) := by decide +kernel
theorem dX10_wordHere_18 : decode cX10_wordHere 18 = .ok (.invokestatic 133, 3) := by decide +kernel
theorem dX10_wordHere_21 : decode cX10_wordHere 21 = .ok (.ifCond .eq 40, 3) := by decide +kernel
theorem dX10_wordHere_24 : decode cX10_wordHere 24 = .ok (.iload_n 2, 1) := by decide +kernel
theorem dX10_wordHere_25 : decode cX10_wordHere 25 = .ok (.bipush 6, 2) := by decide +kernel
theorem dX10_wordHere_27 : decode cX10_wordHere 27 = .ok (.if_icmp .ge 26, 3) := by decide +kernel
theorem dX10_wordHere_30 : decode cX10_wordHere 30 = .ok (.bipush 27, 2) := by decide +kernel
theorem dX10_wordHere_32 : decode cX10_wordHere 32 = .ok (.iload_n 1, 1) := by decide +kernel
theorem dX10_wordHere_33 : decode cX10_wordHere 33 = .ok (.imul, 1) := by decide +kernel
theorem dX10_wordHere_34 : decode cX10_wordHere 34 = .ok (.aload_n 0, 1) := by decide +kernel
theorem dX10_wordHere_35 : decode cX10_wordHere 35 = .ok (.aload_n 0, 1) := by decide +kernel
theorem dX10_wordHere_36 : decode cX10_wordHere 36 = .ok (.getfield 104, 3) := by decide +kernel
theorem dX10_wordHere_39 : decode cX10_wordHere 39 = .ok (.iload_n 2, 1) := by decide +kernel
theorem dX10_wordHere_40 : decode cX10_wordHere 40 = .ok (.iadd, 1) := by decide +kernel
theorem dX10_wordHere_41 : decode cX10_wordHere 41 = .ok (.invokevirtual 107, 3) := by decide +kernel
theorem dX10_wordHere_44 : decode cX10_wordHere 44 = .ok (.iadd, 1) := by decide +kernel
theorem dX10_wordHere_45 : decode cX10_wordHere 45 = .ok (.bipush 97, 2) := by decide +kernel
theorem dX10_wordHere_47 : decode cX10_wordHere 47 = .ok (.isub, 1) := by decide +kernel
theorem dX10_wordHere_48 : decode cX10_wordHere 48 = .ok (.iconst 1, 1) := by decide +kernel
theorem dX10_wordHere_49 : decode cX10_wordHere 49 = .ok (.iadd, 1) := by decide +kernel
theorem dX10_wordHere_50 : decode cX10_wordHere 50 = .ok (.goto 4, 3) := by decide +kernel
theorem dX10_wordHere_53 : decode cX10_wordHere 53 = .ok (.iload_n 1, 1) := by decide +kernel
theorem dX10_wordHere_54 : decode cX10_wordHere 54 = .ok (.istore_n 1, 1) := by decide +kernel
theorem dX10_wordHere_55 : decode cX10_wordHere 55 = .ok (.iinc 2 1, 3) := by decide +kernel
theorem dX10_wordHere_58 : decode cX10_wordHere 58 = .ok (.goto (-50), 3) := by decide +kernel
theorem dX10_wordHere_61 : decode cX10_wordHere 61 = .ok (.iload_n 2, 1) := by decide +kernel
theorem dX10_wordHere_62 : decode cX10_wordHere 62 = .ok (.bipush 6, 2) := by decide +kernel
theorem dX10_wordHere_64 : decode cX10_wordHere 64 = .ok (.if_icmp .le 7, 3) := by decide +kernel
theorem dX10_wordHere_67 : decode cX10_wordHere 67 = .ok (.iconst (-1), 1) := by decide +kernel
theorem dX10_wordHere_68 : decode cX10_wordHere 68 = .ok (.goto 4, 3) := by decide +kernel
theorem dX10_wordHere_71 : decode cX10_wordHere 71 = .ok (.iload_n 1, 1) := by decide +kernel
theorem dX10_wordHere_72 : decode cX10_wordHere 72 = .ok (.ireturn, 1) := by decide +kernel
theorem dX10_six_0 : decode cX10_six 0 = .ok (.bipush 27, 2) := by decide +kernel
theorem dX10_six_2 : decode cX10_six 2 = .ok (.bipush 27, 2) := by decide +kernel
theorem dX10_six_4 : decode cX10_six 4 = .ok (.iload_n 0, 1) := by decide +kernel
theorem dX10_six_5 : decode cX10_six 5 = .ok (.imul, 1) := by decide +kernel
theorem dX10_six_6 : decode cX10_six 6 = .ok (.iload_n 1, 1) := by decide +kernel
theorem dX10_six_7 : decode cX10_six 7 = .ok (.iadd, 1) := by decide +kernel
theorem dX10_six_8 : decode cX10_six 8 = .ok (.imul, 1) := by decide +kernel
theorem dX10_six_9 : decode cX10_six 9 = .ok (.iload_n 2, 1) := by decide +kernel
theorem dX10_six_10 : decode cX10_six 10 = .ok (.iadd, 1) := by decide +kernel
theorem dX10_six_11 : decode cX10_six 11 = .ok (.istore 6, 2) := by decide +kernel
theorem dX10_six_13 : decode cX10_six 13 = .ok (.iload_n 3, 1) := by decide +kernel
theorem dX10_six_14 : decode cX10_six 14 = .ok (.ifCond .ne 8, 3) := by decide +kernel
theorem dX10_six_17 : decode cX10_six 17 = .ok (.iload 6, 2) := by decide +kernel
theorem dX10_six_19 : decode cX10_six 19 = .ok (.goto 10, 3) := by decide +kernel
theorem dX10_six_22 : decode cX10_six 22 = .ok (.bipush 27, 2) := by decide +kernel
theorem dX10_six_24 : decode cX10_six 24 = .ok (.iload 6, 2) := by decide +kernel
theorem dX10_six_26 : decode cX10_six 26 = .ok (.imul, 1) := by decide +kernel
theorem dX10_six_27 : decode cX10_six 27 = .ok (.iload_n 3, 1) := by decide +kernel
theorem dX10_six_28 : decode cX10_six 28 = .ok (.iadd, 1) := by decide +kernel
theorem dX10_six_29 : decode cX10_six 29 = .ok (.istore 6, 2) := by decide +kernel
theorem dX10_six_31 : decode cX10_six 31 = .ok (.iload 4, 2) := by decide +kernel
theorem dX10_six_33 : decode cX10_six 33 = .ok (.ifCond .ne 8, 3) := by decide +kernel
theorem dX10_six_36 : decode cX10_six 36 = .ok (.iload 6, 2) := by decide +kernel
theorem dX10_six_38 : decode cX10_six 38 = .ok (.goto 11, 3) := by decide +kernel
theorem dX10_six_41 : decode cX10_six 41 = .ok (.bipush 27, 2) := by decide +kernel
theorem dX10_six_43 : decode cX10_six 43 = .ok (.iload 6, 2) := by decide +kernel
theorem dX10_six_45 : decode cX10_six 45 = .ok (.imul, 1) := by decide +kernel
theorem dX10_six_46 : decode cX10_six 46 = .ok (.iload 4, 2) := by decide +kernel
theorem dX10_six_48 : decode cX10_six 48 = .ok (.iadd, 1) := by decide +kernel
theorem dX10_six_49 : decode cX10_six 49 = .ok (.istore 6, 2) := by decide +kernel
theorem dX10_six_51 : decode cX10_six 51 = .ok (.iload 5, 2) := by decide +kernel
theorem dX10_six_53 : decode cX10_six 53 = .ok (.ifCond .ne 8, 3) := by decide +kernel
theorem dX10_six_56 : decode cX10_six 56 = .ok (.iload 6, 2) := by decide +kernel
theorem dX10_six_58 : decode cX10_six 58 = .ok (.goto 11, 3) := by decide +kernel
theorem dX10_six_61 : decode cX10_six 61 = .ok (.bipush 27, 2) := by decide +kernel
theorem dX10_six_63 : decode cX10_six 63 = .ok (.iload 6, 2) := by decide +kernel
theorem dX10_six_65 : decode cX10_six 65 = .ok (.imul, 1) := by decide +kernel
theorem dX10_six_66 : decode cX10_six 66 = .ok (.iload 5, 2) := by decide +kernel
theorem dX10_six_68 : decode cX10_six 68 = .ok (.iadd, 1) := by decide +kernel
theorem dX10_six_69 : decode cX10_six 69 = .ok (.ireturn, 1) := by decide +kernel
theorem dX10_isWord_0 : decode cX10_isWord 0 = .ok (.aload_n 0, 1) := by decide +kernel
theorem dX10_isWord_1 : decode cX10_isWord 1 = .ok (.getfield 111, 3) := by decide +kernel
theorem dX10_isWord_4 : decode cX10_isWord 4 = .ok (.ifCond .ne 26, 3) := by decide +kernel
theorem dX10_isWord_7 : decode cX10_isWord 7 = .ok (.aload_n 0, 1) := by decide +kernel
theorem dX10_isWord_8 : decode cX10_isWord 8 = .ok (.invokevirtual 136, 3) := by decide +kernel
theorem dX10_isWord_11 : decode cX10_isWord 11 = .ok (.iload_n 1, 1) := by decide +kernel
theorem dX10_isWord_12 : decode cX10_isWord 12 = .ok (.iload_n 2, 1) := by decide +kernel
theorem dX10_isWord_13 : decode cX10_isWord 13 = .ok (.iload_n 3, 1) := by decide +kernel
theorem dX10_isWord_14 : decode cX10_isWord 14 = .ok (.iload 4, 2) := by decide +kernel
theorem dX10_isWord_16 : decode cX10_isWord 16 = .ok (.iload 5, 2) := by decide +kernel
theorem dX10_isWord_18 : decode cX10_isWord 18 = .ok (.iload 6, 2) := by decide +kernel
theorem dX10_isWord_20 : decode cX10_isWord 20 = .ok (.invokestatic 140, 3) := by decide +kernel
theorem dX10_isWord_23 : decode cX10_isWord 23 = .ok (.if_icmp .ne 7, 3) := by decide +kernel
theorem dX10_isWord_26 : decode cX10_isWord 26 = .ok (.iconst 1, 1) := by decide +kernel
theorem dX10_isWord_27 : decode cX10_isWord 27 = .ok (.goto 4, 3) := by decide +kernel
theorem dX10_isWord_30 : decode cX10_isWord 30 = .ok (.iconst 0, 1) := by decide +kernel
theorem dX10_isWord_31 : decode cX10_isWord 31 = .ok (.ireturn, 1) := by decide +kernel
theorem dX10_skipWord_0 : decode cX10_skipWord 0 = .ok (.aload_n 0, 1) := by decide +kernel
theorem dX10_skipWord_1 : decode cX10_skipWord 1 = .ok (.aload_n 0, 1) := by decide +kernel
theorem dX10_skipWord_2 : decode cX10_skipWord 2 = .ok (.getfield 104, 3) := by decide +kernel
theorem dX10_skipWord_5 : decode cX10_skipWord 5 = .ok (.invokevirtual 107, 3) := by decide +kernel
theorem dX10_skipWord_8 : decode cX10_skipWord 8 = .ok (.invokestatic 133, 3) := by decide +kernel
theorem dX10_skipWord_11 : decode cX10_skipWord 11 = .ok (.ifCond .eq 16, 3) := by decide +kernel
theorem dX10_skipWord_14 : decode cX10_skipWord 14 = .ok (.aload_n 0, 1) := by decide +kernel
theorem dX10_skipWord_15 : decode cX10_skipWord 15 = .ok (.dup, 1) := by decide +kernel
theorem dX10_skipWord_16 : decode cX10_skipWord 16 = .ok (.getfield 104, 3) := by decide +kernel
theorem dX10_skipWord_19 : decode cX10_skipWord 19 = .ok (.iconst 1, 1) := by decide +kernel
theorem dX10_skipWord_20 : decode cX10_skipWord 20 = .ok (.iadd, 1) := by decide +kernel
theorem dX10_skipWord_21 : decode cX10_skipWord 21 = .ok (.putfield 104, 3) := by decide +kernel
theorem dX10_skipWord_24 : decode cX10_skipWord 24 = .ok (.goto (-24), 3) := by decide +kernel
theorem dX10_skipWord_27 : decode cX10_skipWord 27 = .ok (.return_, 1) := by decide +kernel
theorem dX10_isNext_0 : decode cX10_isNext 0 = .ok (.aload_n 0, 1) := by decide +kernel
theorem dX10_isNext_1 : decode cX10_isNext 1 = .ok (.iload_n 1, 1) := by decide +kernel
theorem dX10_isNext_2 : decode cX10_isNext 2 = .ok (.iload_n 2, 1) := by decide +kernel
theorem dX10_isNext_3 : decode cX10_isNext 3 = .ok (.iload_n 3, 1) := by decide +kernel
theorem dX10_isNext_4 : decode cX10_isNext 4 = .ok (.iload 4, 2) := by decide +kernel
theorem dX10_isNext_6 : decode cX10_isNext 6 = .ok (.iload 5, 2) := by decide +kernel
theorem dX10_isNext_8 : decode cX10_isNext 8 = .ok (.iload 6, 2) := by decide +kernel
theorem dX10_isNext_10 : decode cX10_isNext 10 = .ok (.invokevirtual 144, 3) := by decide +kernel
theorem dX10_isNext_13 : decode cX10_isNext 13 = .ok (.istore 7, 2) := by decide +kernel
theorem dX10_isNext_15 : decode cX10_isNext 15 = .ok (.iload 7, 2) := by decide +kernel
theorem dX10_isNext_17 : decode cX10_isNext 17 = .ok (.ifCond .eq 7, 3) := by decide +kernel
theorem dX10_isNext_20 : decode cX10_isNext 20 = .ok (.aload_n 0, 1) := by decide +kernel
theorem dX10_isNext_21 : decode cX10_isNext 21 = .ok (.invokevirtual 148, 3) := by decide +kernel
theorem dX10_isNext_24 : decode cX10_isNext 24 = .ok (.iload 7, 2) := by decide +kernel
theorem dX10_isNext_26 : decode cX10_isNext 26 = .ok (.ireturn, 1) := by decide +kernel
theorem dX10_sign_0 : decode cX10_sign 0 = .ok (.aload_n 0, 1) := by decide +kernel
theorem dX10_sign_1 : decode cX10_sign 1 = .ok (.getfield 111, 3) := by decide +kernel
theorem dX10_sign_4 : decode cX10_sign 4 = .ok (.ifCond .eq 4, 3) := by decide +kernel
theorem dX10_sign_7 : decode cX10_sign 7 = .ok (.return_, 1) := by decide +kernel
theorem dX10_sign_8 : decode cX10_sign 8 = .ok (.aload_n 0, 1) := by decide +kernel
theorem dX10_sign_9 : decode cX10_sign 9 = .ok (.invokevirtual 117, 3) := by decide +kernel
theorem dX10_sign_12 : decode cX10_sign 12 = .ok (.aload_n 0, 1) := by decide +kernel
theorem dX10_sign_13 : decode cX10_sign 13 = .ok (.aload_n 0, 1) := by decide +kernel
theorem dX10_sign_14 : decode cX10_sign 14 = .ok (.getfield 104, 3) := by decide +kernel
theorem dX10_sign_17 : decode cX10_sign 17 = .ok (.invokevirtual 107, 3) := by decide +kernel
theorem dX10_sign_20 : decode cX10_sign 20 = .ok (.iload_n 1, 1) := by decide +kernel
theorem dX10_sign_21 : decode cX10_sign 21 = .ok (.if_icmp .ne 16, 3) := by decide +kernel
theorem dX10_sign_24 : decode cX10_sign 24 = .ok (.aload_n 0, 1) := by decide +kernel
theorem dX10_sign_25 : decode cX10_sign 25 = .ok (.dup, 1) := by decide +kernel
theorem dX10_sign_26 : decode cX10_sign 26 = .ok (.getfield 104, 3) := by decide +kernel
theorem dX10_sign_29 : decode cX10_sign 29 = .ok (.iconst 1, 1) := by decide +kernel
theorem dX10_sign_30 : decode cX10_sign 30 = .ok (.iadd, 1) := by decide +kernel
theorem dX10_sign_31 : decode cX10_sign 31 = .ok (.putfield 104, 3) := by decide +kernel
theorem dX10_sign_34 : decode cX10_sign 34 = .ok (.goto 12, 3) := by decide +kernel
theorem dX10_sign_37 : decode cX10_sign 37 = .ok (.aload_n 0, 1) := by decide +kernel
theorem dX10_sign_38 : decode cX10_sign 38 = .ok (.iconst 1, 1) := by decide +kernel
theorem dX10_sign_39 : decode cX10_sign 39 = .ok (.aload_n 0, 1) := by decide +kernel
theorem dX10_sign_40 : decode cX10_sign 40 = .ok (.getfield 104, 3) := by decide +kernel
theorem dX10_sign_43 : decode cX10_sign 43 = .ok (.invokevirtual 124, 3) := by decide +kernel
theorem dX10_sign_46 : decode cX10_sign 46 = .ok (.return_, 1) := by decide +kernel
theorem dX10_takesSign_0 : decode cX10_takesSign 0 = .ok (.aload_n 0, 1) := by decide +kernel
theorem dX10_takesSign_1 : decode cX10_takesSign 1 = .ok (.getfield 111, 3) := by decide +kernel
theorem dX10_takesSign_4 : decode cX10_takesSign 4 = .ok (.ifCond .eq 5, 3) := by decide +kernel
theorem dX10_takesSign_7 : decode cX10_takesSign 7 = .ok (.iconst 0, 1) := by decide +kernel
theorem dX10_takesSign_8 : decode cX10_takesSign 8 = .ok (.ireturn, 1) := by decide +kernel
theorem dX10_takesSign_9 : decode cX10_takesSign 9 = .ok (.aload_n 0, 1) := by decide +kernel
theorem dX10_takesSign_10 : decode cX10_takesSign 10 = .ok (.invokevirtual 117, 3) := by decide +kernel
theorem dX10_takesSign_13 : decode cX10_takesSign 13 = .ok (.aload_n 0, 1) := by decide +kernel
theorem dX10_takesSign_14 : decode cX10_takesSign 14 = .ok (.aload_n 0, 1) := by decide +kernel
theorem dX10_takesSign_15 : decode cX10_takesSign 15 = .ok (.getfield 104, 3) := by decide +kernel
theorem dX10_takesSign_18 : decode cX10_takesSign 18 = .ok (.invokevirtual 107, 3) := by decide +kernel
theorem dX10_takesSign_21 : decode cX10_takesSign 21 = .ok (.iload_n 1, 1) := by decide +kernel
theorem dX10_takesSign_22 : decode cX10_takesSign 22 = .ok (.if_icmp .ne 7, 3) := by decide +kernel
theorem dX10_takesSign_25 : decode cX10_takesSign 25 = .ok (.iconst 1, 1) := by decide +kernel
theorem dX10_takesSign_26 : decode cX10_takesSign 26 = .ok (.goto 4, 3) := by decide +kernel
theorem dX10_takesSign_29 : decode cX10_takesSign 29 = .ok (.iconst 0, 1) := by decide +kernel
theorem dX10_takesSign_30 : decode cX10_takesSign 30 = .ok (.istore_n 2, 1) := by decide +kernel
theorem dX10_takesSign_31 : decode cX10_takesSign 31 = .ok (.iload_n 2, 1) := by decide +kernel
theorem dX10_takesSign_32 : decode cX10_takesSign 32 = .ok (.ifCond .eq 13, 3) := by decide +kernel
theorem dX10_takesSign_35 : decode cX10_takesSign 35 = .ok (.aload_n 0, 1) := by decide +kernel
theorem dX10_takesSign_36 : decode cX10_takesSign 36 = .ok (.dup, 1) := by decide +kernel
theorem dX10_takesSign_37 : decode cX10_takesSign 37 = .ok (.getfield 104, 3) := by decide +kernel
theorem dX10_takesSign_40 : decode cX10_takesSign 40 = .ok (.iconst 1, 1) := by decide +kernel
theorem dX10_takesSign_41 : decode cX10_takesSign 41 = .ok (.iadd, 1) := by decide +kernel
theorem dX10_takesSign_42 : decode cX10_takesSign 42 = .ok (.putfield 104, 3) := by decide +kernel
theorem dX10_takesSign_45 : decode cX10_takesSign 45 = .ok (.iload_n 2, 1) := by decide +kernel
theorem dX10_takesSign_46 : decode cX10_takesSign 46 = .ok (.ireturn, 1) := by decide +kernel
theorem dX10_starts_0 : decode cX10_starts 0 = .ok (.aload_n 0, 1) := by decide +kernel
theorem dX10_starts_1 : decode cX10_starts 1 = .ok (.iconst 0, 1) := by decide +kernel
theorem dX10_starts_2 : decode cX10_starts 2 = .ok (.putfield 98, 3) := by decide +kernel
theorem dX10_starts_5 : decode cX10_starts 5 = .ok (.aload_n 0, 1) := by decide +kernel
theorem dX10_starts_6 : decode cX10_starts 6 = .ok (.iload_n 1, 1) := by decide +kernel
theorem dX10_starts_7 : decode cX10_starts 7 = .ok (.putfield 101, 3) := by decide +kernel
theorem dX10_starts_10 : decode cX10_starts 10 = .ok (.aload_n 0, 1) := by decide +kernel
theorem dX10_starts_11 : decode cX10_starts 11 = .ok (.iconst 0, 1) := by decide +kernel
theorem dX10_starts_12 : decode cX10_starts 12 = .ok (.putfield 104, 3) := by decide +kernel
theorem dX10_starts_15 : decode cX10_starts 15 = .ok (.aload_n 0, 1) := by decide +kernel
theorem dX10_starts_16 : decode cX10_starts 16 = .ok (.iconst 0, 1) := by decide +kernel
theorem dX10_starts_17 : decode cX10_starts 17 = .ok (.putfield 111, 3) := by decide +kernel
theorem dX10_starts_20 : decode cX10_starts 20 = .ok (.aload_n 0, 1) := by decide +kernel
theorem dX10_starts_21 : decode cX10_starts 21 = .ok (.iconst (-1), 1) := by decide +kernel
theorem dX10_starts_22 : decode cX10_starts 22 = .ok (.putfield 114, 3) := by decide +kernel
theorem dX10_starts_25 : decode cX10_starts 25 = .ok (.aload_n 0, 1) := by decide +kernel
theorem dX10_starts_26 : decode cX10_starts 26 = .ok (.iconst 0, 1) := by decide +kernel
theorem dX10_starts_27 : decode cX10_starts 27 = .ok (.putfield 151, 3) := by decide +kernel
theorem dX10_starts_30 : decode cX10_starts 30 = .ok (.aload_n 0, 1) := by decide +kernel
theorem dX10_starts_31 : decode cX10_starts 31 = .ok (.iconst 0, 1) := by decide +kernel
theorem dX10_starts_32 : decode cX10_starts 32 = .ok (.putfield 154, 3) := by decide +kernel
theorem dX10_starts_35 : decode cX10_starts 35 = .ok (.aload_n 0, 1) := by decide +kernel
theorem dX10_starts_36 : decode cX10_starts 36 = .ok (.invokevirtual 117, 3) := by decide +kernel
theorem dX10_starts_39 : decode cX10_starts 39 = .ok (.return_, 1) := by decide +kernel
theorem dX10_ends_0 : decode cX10_ends 0 = .ok (.aload_n 0, 1) := by decide +kernel
theorem dX10_ends_1 : decode cX10_ends 1 = .ok (.aload_n 0, 1) := by decide +kernel
theorem dX10_ends_2 : decode cX10_ends 2 = .ok (.getfield 114, 3) := by decide +kernel
theorem dX10_ends_5 : decode cX10_ends 5 = .ok (.putfield 9, 3) := by decide +kernel
theorem dX10_ends_8 : decode cX10_ends 8 = .ok (.aload_n 0, 1) := by decide +kernel
theorem dX10_ends_9 : decode cX10_ends 9 = .ok (.getfield 111, 3) := by decide +kernel
theorem dX10_ends_12 : decode cX10_ends 12 = .ok (.bipush 10, 2) := by decide +kernel
theorem dX10_ends_14 : decode cX10_ends 14 = .ok (.isub, 1) := by decide +kernel
theorem dX10_ends_15 : decode cX10_ends 15 = .ok (.ireturn, 1) := by decide +kernel
theorem dX10_kindHere_0 : decode cX10_kindHere 0 = .ok (.aload_n 0, 1) := by decide +kernel
theorem dX10_kindHere_1 : decode cX10_kindHere 1 = .ok (.bipush 19, 2) := by decide +kernel
theorem dX10_kindHere_3 : decode cX10_kindHere 3 = .ok (.bipush 9, 2) := by decide +kernel
theorem dX10_kindHere_5 : decode cX10_kindHere 5 = .ok (.bipush 14, 2) := by decide +kernel
theorem dX10_kindHere_7 : decode cX10_kindHere 7 = .ok (.bipush 7, 2) := by decide +kernel
theorem dX10_kindHere_9 : decode cX10_kindHere 9 = .ok (.iconst 5, 1) := by decide +kernel
theorem dX10_kindHere_10 : decode cX10_kindHere 10 = .ok (.bipush 18, 2) := by decide +kernel
theorem dX10_kindHere_12 : decode cX10_kindHere 12 = .ok (.invokevirtual 144, 3) := by decide +kernel
theorem dX10_kindHere_15 : decode cX10_kindHere 15 = .ok (.ifCond .eq 5, 3) := by decide +kernel
theorem dX10_kindHere_18 : decode cX10_kindHere 18 = .ok (.iconst 0, 1) := by decide +kernel
theorem dX10_kindHere_19 : decode cX10_kindHere 19 = .ok (.ireturn, 1) := by decide +kernel
theorem dX10_kindHere_20 : decode cX10_kindHere 20 = .ok (.aload_n 0, 1) := by decide +kernel
theorem dX10_kindHere_21 : decode cX10_kindHere 21 = .ok (.bipush 14, 2) := by decide +kernel
theorem dX10_kindHere_23 : decode cX10_kindHere 23 = .ok (.bipush 15, 2) := by decide +kernel
theorem dX10_kindHere_25 : decode cX10_kindHere 25 = .ok (.bipush 20, 2) := by decide +kernel
theorem dX10_kindHere_27 : decode cX10_kindHere 27 = .ok (.iconst 5, 1) := by decide +kernel
theorem dX10_kindHere_28 : decode cX10_kindHere 28 = .ok (.iconst 0, 1) := by decide +kernel
theorem dX10_kindHere_29 : decode cX10_kindHere 29 = .ok (.iconst 0, 1) := by decide +kernel
theorem dX10_kindHere_30 : decode cX10_kindHere 30 = .ok (.invokevirtual 144, 3) := by decide +kernel
theorem dX10_kindHere_33 : decode cX10_kindHere 33 = .ok (.ifCond .eq 5, 3) := by decide +kernel
theorem dX10_kindHere_36 : decode cX10_kindHere 36 = .ok (.iconst 1, 1) := by decide +kernel
theorem dX10_kindHere_37 : decode cX10_kindHere 37 = .ok (.ireturn, 1) := by decide +kernel
theorem dX10_kindHere_38 : decode cX10_kindHere 38 = .ok (.aload_n 0, 1) := by decide +kernel
theorem dX10_kindHere_39 : decode cX10_kindHere 39 = .ok (.bipush 12, 2) := by decide +kernel
theorem dX10_kindHere_41 : decode cX10_kindHere 41 = .ok (.bipush 9, 2) := by decide +kernel
theorem dX10_kindHere_43 : decode cX10_kindHere 43 = .ok (.bipush 11, 2) := by decide +kernel
theorem dX10_kindHere_45 : decode cX10_kindHere 45 = .ok (.iconst 5, 1) := by decide +kernel
theorem dX10_kindHere_46 : decode cX10_kindHere 46 = .ok (.iconst 0, 1) := by decide +kernel
theorem dX10_kindHere_47 : decode cX10_kindHere 47 = .ok (.iconst 0, 1) := by decide +kernel
theorem dX10_kindHere_48 : decode cX10_kindHere 48 = .ok (.invokevirtual 144, 3) := by decide +kernel
theorem dX10_kindHere_51 : decode cX10_kindHere 51 = .ok (.ifCond .eq 5, 3) := by decide +kernel
theorem dX10_kindHere_54 : decode cX10_kindHere 54 = .ok (.iconst 2, 1) := by decide +kernel
theorem dX10_kindHere_55 : decode cX10_kindHere 55 = .ok (.ireturn, 1) := by decide +kernel
theorem dX10_kindHere_56 : decode cX10_kindHere 56 = .ok (.aload_n 0, 1) := by decide +kernel
theorem dX10_kindHere_57 : decode cX10_kindHere 57 = .ok (.bipush 18, 2) := by decide +kernel
theorem dX10_kindHere_59 : decode cX10_kindHere 59 = .ok (.iconst 5, 1) := by decide +kernel
theorem dX10_kindHere_60 : decode cX10_kindHere 60 = .ok (.bipush 19, 2) := by decide +kernel
theorem dX10_kindHere_62 : decode cX10_kindHere 62 = .ok (.bipush 20, 2) := by decide +kernel
theorem dX10_kindHere_64 : decode cX10_kindHere 64 = .ok (.iconst 0, 1) := by decide +kernel
theorem dX10_kindHere_65 : decode cX10_kindHere 65 = .ok (.iconst 0, 1) := by decide +kernel
theorem dX10_kindHere_66 : decode cX10_kindHere 66 = .ok (.invokevirtual 144, 3) := by decide +kernel
theorem dX10_kindHere_69 : decode cX10_kindHere 69 = .ok (.ifCond .eq 7, 3) := by decide +kernel
theorem dX10_kindHere_72 : decode cX10_kindHere 72 = .ok (.iconst 3, 1) := by decide +kernel
theorem dX10_kindHere_73 : decode cX10_kindHere 73 = .ok (.goto 4, 3) := by decide +kernel
theorem dX10_kindHere_76 : decode cX10_kindHere 76 = .ok (.iconst (-1), 1) := by decide +kernel
theorem dX10_kindHere_77 : decode cX10_kindHere 77 = .ok (.ireturn, 1) := by decide +kernel
theorem dX10_mostOf_0 : decode cX10_mostOf 0 = .ok (.iload_n 0, 1) := by decide +kernel
theorem dX10_mostOf_1 : decode cX10_mostOf 1 = .ok (.ifCond .ne 8, 3) := by decide +kernel
theorem dX10_mostOf_4 : decode cX10_mostOf 4 = .ok (.bipush 7, 2) := by decide +kernel
theorem dX10_mostOf_6 : decode cX10_mostOf 6 = .ok (.goto 15, 3) := by decide +kernel
theorem dX10_mostOf_9 : decode cX10_mostOf 9 = .ok (.iload_n 0, 1) := by decide +kernel
theorem dX10_mostOf_10 : decode cX10_mostOf 10 = .ok (.iconst 1, 1) := by decide +kernel
theorem dX10_mostOf_11 : decode cX10_mostOf 11 = .ok (.if_icmp .ne 8, 3) := by decide +kernel
theorem dX10_mostOf_14 : decode cX10_mostOf 14 = .ok (.bipush 20, 2) := by decide +kernel
theorem dX10_mostOf_16 : decode cX10_mostOf 16 = .ok (.goto 5, 3) := by decide +kernel
theorem dX10_mostOf_19 : decode cX10_mostOf 19 = .ok (.bipush 12, 2) := by decide +kernel
theorem dX10_mostOf_21 : decode cX10_mostOf 21 = .ok (.ireturn, 1) := by decide +kernel
theorem dX10_clause_0 : decode cX10_clause 0 = .ok (.aload_n 0, 1) := by decide +kernel
theorem dX10_clause_1 : decode cX10_clause 1 = .ok (.invokevirtual 157, 3) := by decide +kernel
theorem dX10_clause_4 : decode cX10_clause 4 = .ok (.istore_n 1, 1) := by decide +kernel
theorem dX10_clause_5 : decode cX10_clause 5 = .ok (.iload_n 1, 1) := by decide +kernel
theorem dX10_clause_6 : decode cX10_clause 6 = .ok (.iconst (-1), 1) := by decide +kernel
theorem dX10_clause_7 : decode cX10_clause 7 = .ok (.if_icmp .ne 15, 3) := by decide +kernel
theorem dX10_clause_10 : decode cX10_clause 10 = .ok (.aload_n 0, 1) := by decide +kernel
theorem dX10_clause_11 : decode cX10_clause 11 = .ok (.iconst 1, 1) := by decide +kernel
theorem dX10_clause_12 : decode cX10_clause 12 = .ok (.aload_n 0, 1) := by decide +kernel
theorem dX10_clause_13 : decode cX10_clause 13 = .ok (.getfield 104, 3) := by decide +kernel
theorem dX10_clause_16 : decode cX10_clause 16 = .ok (.invokevirtual 124, 3) := by decide +kernel
theorem dX10_clause_19 : decode cX10_clause 19 = .ok (.goto 39, 3) := by decide +kernel
theorem dX10_clause_22 : decode cX10_clause 22 = .ok (.aload_n 0, 1) := by decide +kernel
theorem dX10_clause_23 : decode cX10_clause 23 = .ok (.getfield 151, 3) := by decide +kernel
theorem dX10_clause_26 : decode cX10_clause 26 = .ok (.bipush 60, 2) := by decide +kernel
theorem dX10_clause_28 : decode cX10_clause 28 = .ok (.if_icmp .eq 21, 3) := by decide +kernel
theorem dX10_clause_31 : decode cX10_clause 31 = .ok (.iload_n 1, 1) := by decide +kernel
theorem dX10_clause_32 : decode cX10_clause 32 = .ok (.iconst 3, 1) := by decide +kernel
theorem dX10_clause_33 : decode cX10_clause 33 = .ok (.if_icmp .ge 25, 3) := by decide +kernel
theorem dX10_clause_36 : decode cX10_clause 36 = .ok (.aload_n 0, 1) := by decide +kernel
theorem dX10_clause_37 : decode cX10_clause 37 = .ok (.getfield 20, 3) := by decide +kernel
theorem dX10_clause_40 : decode cX10_clause 40 = .ok (.iload_n 1, 1) := by decide +kernel
theorem dX10_clause_41 : decode cX10_clause 41 = .ok (.iaload, 1) := by decide +kernel
theorem dX10_clause_42 : decode cX10_clause 42 = .ok (.iload_n 1, 1) := by decide +kernel
theorem dX10_clause_43 : decode cX10_clause 43 = .ok (.invokestatic 160, 3) := by decide +kernel
theorem dX10_clause_46 : decode cX10_clause 46 = .ok (.if_icmp .ne 12, 3) := by decide +kernel
theorem dX10_clause_49 : decode cX10_clause 49 = .ok (.aload_n 0, 1) := by decide +kernel
theorem dX10_clause_50 : decode cX10_clause 50 = .ok (.iconst 3, 1) := by decide +kernel
theorem dX10_clause_51 : decode cX10_clause 51 = .ok (.aload_n 0, 1) := by decide +kernel
theorem dX10_clause_52 : decode cX10_clause 52 = .ok (.getfield 104, 3) := by decide +kernel
theorem dX10_clause_55 : decode cX10_clause 55 = .ok (.invokevirtual 124, 3) := by decide +kernel
theorem dX10_clause_58 : decode cX10_clause 58 = .ok (.aload_n 0, 1) := by decide +kernel
theorem dX10_clause_59 : decode cX10_clause 59 = .ok (.getfield 111, 3) := by decide +kernel
theorem dX10_clause_62 : decode cX10_clause 62 = .ok (.ifCond .eq 4, 3) := by decide +kernel
theorem dX10_clause_65 : decode cX10_clause 65 = .ok (.return_, 1) := by decide +kernel
theorem dX10_clause_66 : decode cX10_clause 66 = .ok (.aload_n 0, 1) := by decide +kernel
theorem dX10_clause_67 : decode cX10_clause 67 = .ok (.invokevirtual 148, 3) := by decide +kernel
theorem dX10_clause_70 : decode cX10_clause 70 = .ok (.aload_n 0, 1) := by decide +kernel
theorem dX10_clause_71 : decode cX10_clause 71 = .ok (.dup, 1) := by decide +kernel
theorem dX10_clause_72 : decode cX10_clause 72 = .ok (.getfield 151, 3) := by decide +kernel
theorem dX10_clause_75 : decode cX10_clause 75 = .ok (.iconst 1, 1) := by decide +kernel
theorem dX10_clause_76 : decode cX10_clause 76 = .ok (.iadd, 1) := by decide +kernel
theorem dX10_clause_77 : decode cX10_clause 77 = .ok (.putfield 151, 3) := by decide +kernel
theorem dX10_clause_80 : decode cX10_clause 80 = .ok (.iload_n 1, 1) := by decide +kernel
theorem dX10_clause_81 : decode cX10_clause 81 = .ok (.iconst 3, 1) := by decide +kernel
theorem dX10_clause_82 : decode cX10_clause 82 = .ok (.if_icmp .ge 12, 3) := by decide +kernel
theorem dX10_clause_85 : decode cX10_clause 85 = .ok (.aload_n 0, 1) := by decide +kernel
theorem dX10_clause_86 : decode cX10_clause 86 = .ok (.getfield 20, 3) := by decide +kernel
theorem dX10_clause_89 : decode cX10_clause 89 = .ok (.iload_n 1, 1) := by decide +kernel
theorem dX10_clause_90 : decode cX10_clause 90 = .ok (.iaload, 1) := by decide +kernel
theorem dX10_clause_91 : decode cX10_clause 91 = .ok (.goto 4, 3) := by decide +kernel
theorem dX10_clause_94 : decode cX10_clause 94 = .ok (.iconst 0, 1) := by decide +kernel
theorem dX10_clause_95 : decode cX10_clause 95 = .ok (.istore_n 2, 1) := by decide +kernel
theorem dX10_clause_96 : decode cX10_clause 96 = .ok (.iload_n 1, 1) := by decide +kernel
theorem dX10_clause_97 : decode cX10_clause 97 = .ok (.tableswitch 144 0 2 #[27, 74, 106], 27) := by decide +kernel
theorem dX10_clause_124 : decode cX10_clause 124 = .ok (.aload_n 0, 1) := by decide +kernel
theorem dX10_clause_125 : decode cX10_clause 125 = .ok (.getfield 28, 3) := by decide +kernel
theorem dX10_clause_128 : decode cX10_clause 128 = .ok (.iload_n 2, 1) := by decide +kernel
theorem dX10_clause_129 : decode cX10_clause 129 = .ok (.aaload, 1) := by decide +kernel
theorem dX10_clause_130 : decode cX10_clause 130 = .ok (.iconst 0, 1) := by decide +kernel
theorem dX10_clause_131 : decode cX10_clause 131 = .ok (.aload_n 0, 1) := by decide +kernel
theorem dX10_clause_132 : decode cX10_clause 132 = .ok (.iconst 0, 1) := by decide +kernel
theorem dX10_clause_133 : decode cX10_clause 133 = .ok (.iconst 5, 1) := by decide +kernel
theorem dX10_clause_134 : decode cX10_clause 134 = .ok (.invokevirtual 163, 3) := by decide +kernel
theorem dX10_clause_137 : decode cX10_clause 137 = .ok (.iastore, 1) := by decide +kernel
theorem dX10_clause_138 : decode cX10_clause 138 = .ok (.aload_n 0, 1) := by decide +kernel
theorem dX10_clause_139 : decode cX10_clause 139 = .ok (.getfield 28, 3) := by decide +kernel
theorem dX10_clause_142 : decode cX10_clause 142 = .ok (.iload_n 2, 1) := by decide +kernel
theorem dX10_clause_143 : decode cX10_clause 143 = .ok (.aaload, 1) := by decide +kernel
theorem dX10_clause_144 : decode cX10_clause 144 = .ok (.iconst 1, 1) := by decide +kernel
theorem dX10_clause_145 : decode cX10_clause 145 = .ok (.aload_n 0, 1) := by decide +kernel
theorem dX10_clause_146 : decode cX10_clause 146 = .ok (.iconst 0, 1) := by decide +kernel
theorem dX10_clause_147 : decode cX10_clause 147 = .ok (.bipush 60, 2) := by decide +kernel
theorem dX10_clause_149 : decode cX10_clause 149 = .ok (.invokevirtual 163, 3) := by decide +kernel
theorem dX10_clause_152 : decode cX10_clause 152 = .ok (.iastore, 1) := by decide +kernel
theorem dX10_clause_153 : decode cX10_clause 153 = .ok (.aload_n 0, 1) := by decide +kernel
theorem dX10_clause_154 : decode cX10_clause 154 = .ok (.getfield 28, 3) := by decide +kernel
theorem dX10_clause_157 : decode cX10_clause 157 = .ok (.iload_n 2, 1) := by decide +kernel
theorem dX10_clause_158 : decode cX10_clause 158 = .ok (.aaload, 1) := by decide +kernel
theorem dX10_clause_159 : decode cX10_clause 159 = .ok (.iconst 2, 1) := by decide +kernel
theorem dX10_clause_160 : decode cX10_clause 160 = .ok (.aload_n 0, 1) := by decide +kernel
theorem dX10_clause_161 : decode cX10_clause 161 = .ok (.iconst 1, 1) := by decide +kernel
theorem dX10_clause_162 : decode cX10_clause 162 = .ok (.bipush 30, 2) := by decide +kernel
theorem dX10_clause_164 : decode cX10_clause 164 = .ok (.invokevirtual 163, 3) := by decide +kernel
theorem dX10_clause_167 : decode cX10_clause 167 = .ok (.iastore, 1) := by decide +kernel
theorem dX10_clause_168 : decode cX10_clause 168 = .ok (.goto 98, 3) := by decide +kernel
theorem dX10_clause_171 : decode cX10_clause 171 = .ok (.aload_n 0, 1) := by decide +kernel
theorem dX10_clause_172 : decode cX10_clause 172 = .ok (.getfield 34, 3) := by decide +kernel
theorem dX10_clause_175 : decode cX10_clause 175 = .ok (.iload_n 2, 1) := by decide +kernel
theorem dX10_clause_176 : decode cX10_clause 176 = .ok (.aaload, 1) := by decide +kernel
theorem dX10_clause_177 : decode cX10_clause 177 = .ok (.iconst 0, 1) := by decide +kernel
theorem dX10_clause_178 : decode cX10_clause 178 = .ok (.aload_n 0, 1) := by decide +kernel
theorem dX10_clause_179 : decode cX10_clause 179 = .ok (.iconst 0, 1) := by decide +kernel
theorem dX10_clause_180 : decode cX10_clause 180 = .ok (.iconst 5, 1) := by decide +kernel
theorem dX10_clause_181 : decode cX10_clause 181 = .ok (.invokevirtual 163, 3) := by decide +kernel
theorem dX10_clause_184 : decode cX10_clause 184 = .ok (.iastore, 1) := by decide +kernel
theorem dX10_clause_185 : decode cX10_clause 185 = .ok (.aload_n 0, 1) := by decide +kernel
theorem dX10_clause_186 : decode cX10_clause 186 = .ok (.getfield 34, 3) := by decide +kernel
theorem dX10_clause_189 : decode cX10_clause 189 = .ok (.iload_n 2, 1) := by decide +kernel
theorem dX10_clause_190 : decode cX10_clause 190 = .ok (.aaload, 1) := by decide +kernel
theorem dX10_clause_191 : decode cX10_clause 191 = .ok (.iconst 1, 1) := by decide +kernel
theorem dX10_clause_192 : decode cX10_clause 192 = .ok (.aload_n 0, 1) := by decide +kernel
theorem dX10_clause_193 : decode cX10_clause 193 = .ok (.iconst 1, 1) := by decide +kernel
theorem dX10_clause_194 : decode cX10_clause 194 = .ok (.bipush 9, 2) := by decide +kernel
theorem dX10_clause_196 : decode cX10_clause 196 = .ok (.invokevirtual 163, 3) := by decide +kernel
theorem dX10_clause_199 : decode cX10_clause 199 = .ok (.iastore, 1) := by decide +kernel
theorem dX10_clause_200 : decode cX10_clause 200 = .ok (.goto 66, 3) := by decide +kernel
theorem dX10_clause_203 : decode cX10_clause 203 = .ok (.aload_n 0, 1) := by decide +kernel
theorem dX10_clause_204 : decode cX10_clause 204 = .ok (.getfield 40, 3) := by decide +kernel
theorem dX10_clause_207 : decode cX10_clause 207 = .ok (.iload_n 2, 1) := by decide +kernel
theorem dX10_clause_208 : decode cX10_clause 208 = .ok (.aaload, 1) := by decide +kernel
theorem dX10_clause_209 : decode cX10_clause 209 = .ok (.iconst 0, 1) := by decide +kernel
theorem dX10_clause_210 : decode cX10_clause 210 = .ok (.aload_n 0, 1) := by decide +kernel
theorem dX10_clause_211 : decode cX10_clause 211 = .ok (.iconst 0, 1) := by decide +kernel
theorem dX10_clause_212 : decode cX10_clause 212 = .ok (.aload_n 0, 1) := by decide +kernel
theorem dX10_clause_213 : decode cX10_clause 213 = .ok (.getfield 20, 3) := by decide +kernel
theorem dX10_clause_216 : decode cX10_clause 216 = .ok (.iconst 1, 1) := by decide +kernel
theorem dX10_clause_217 : decode cX10_clause 217 = .ok (.iaload, 1) := by decide +kernel
theorem dX10_clause_218 : decode cX10_clause 218 = .ok (.iconst 1, 1) := by decide +kernel
theorem dX10_clause_219 : decode cX10_clause 219 = .ok (.isub, 1) := by decide +kernel
theorem dX10_clause_220 : decode cX10_clause 220 = .ok (.invokevirtual 163, 3) := by decide +kernel
theorem dX10_clause_223 : decode cX10_clause 223 = .ok (.iastore, 1) := by decide +kernel
theorem dX10_clause_224 : decode cX10_clause 224 = .ok (.aload_n 0, 1) := by decide +kernel
theorem dX10_clause_225 : decode cX10_clause 225 = .ok (.getfield 40, 3) := by decide +kernel
theorem dX10_clause_228 : decode cX10_clause 228 = .ok (.iload_n 2, 1) := by decide +kernel
theorem dX10_clause_229 : decode cX10_clause 229 = .ok (.aaload, 1) := by decide +kernel
theorem dX10_clause_230 : decode cX10_clause 230 = .ok (.iconst 1, 1) := by decide +kernel
theorem dX10_clause_231 : decode cX10_clause 231 = .ok (.aload_n 0, 1) := by decide +kernel
theorem dX10_clause_232 : decode cX10_clause 232 = .ok (.iconst 0, 1) := by decide +kernel
theorem dX10_clause_233 : decode cX10_clause 233 = .ok (.iconst 5, 1) := by decide +kernel
theorem dX10_clause_234 : decode cX10_clause 234 = .ok (.invokevirtual 163, 3) := by decide +kernel
theorem dX10_clause_237 : decode cX10_clause 237 = .ok (.iastore, 1) := by decide +kernel
theorem dX10_clause_238 : decode cX10_clause 238 = .ok (.goto 28, 3) := by decide +kernel
theorem dX10_clause_241 : decode cX10_clause 241 = .ok (.aload_n 0, 1) := by decide +kernel
theorem dX10_clause_242 : decode cX10_clause 242 = .ok (.iconst 0, 1) := by decide +kernel
theorem dX10_clause_243 : decode cX10_clause 243 = .ok (.bipush 30, 2) := by decide +kernel
theorem dX10_clause_245 : decode cX10_clause 245 = .ok (.invokevirtual 163, 3) := by decide +kernel
theorem dX10_clause_248 : decode cX10_clause 248 = .ok (.istore_n 3, 1) := by decide +kernel
theorem dX10_clause_249 : decode cX10_clause 249 = .ok (.aload_n 0, 1) := by decide +kernel
theorem dX10_clause_250 : decode cX10_clause 250 = .ok (.getfield 111, 3) := by decide +kernel
theorem dX10_clause_253 : decode cX10_clause 253 = .ok (.ifCond .ne 13, 3) := by decide +kernel
theorem dX10_clause_256 : decode cX10_clause 256 = .ok (.aload_n 0, 1) := by decide +kernel
theorem dX10_clause_257 : decode cX10_clause 257 = .ok (.getfield 20, 3) := by decide +kernel
theorem dX10_clause_260 : decode cX10_clause 260 = .ok (.iconst 3, 1) := by decide +kernel
theorem dX10_clause_261 : decode cX10_clause 261 = .ok (.iload_n 3, 1) := by decide +kernel
theorem dX10_clause_262 : decode cX10_clause 262 = .ok (.iastore, 1) := by decide +kernel
theorem dX10_clause_263 : decode cX10_clause 263 = .ok (.goto 3, 3) := by decide +kernel
theorem dX10_clause_266 : decode cX10_clause 266 = .ok (.aload_n 0, 1) := by decide +kernel
theorem dX10_clause_267 : decode cX10_clause 267 = .ok (.bipush 59, 2) := by decide +kernel
theorem dX10_clause_269 : decode cX10_clause 269 = .ok (.invokevirtual 167, 3) := by decide +kernel
theorem dX10_clause_272 : decode cX10_clause 272 = .ok (.iload_n 1, 1) := by decide +kernel
theorem dX10_clause_273 : decode cX10_clause 273 = .ok (.iconst 3, 1) := by decide +kernel
theorem dX10_clause_274 : decode cX10_clause 274 = .ok (.if_icmp .ge 24, 3) := by decide +kernel
theorem dX10_clause_277 : decode cX10_clause 277 = .ok (.aload_n 0, 1) := by decide +kernel
theorem dX10_clause_278 : decode cX10_clause 278 = .ok (.getfield 20, 3) := by decide +kernel
theorem dX10_clause_281 : decode cX10_clause 281 = .ok (.iload_n 1, 1) := by decide +kernel
theorem dX10_clause_282 : decode cX10_clause 282 = .ok (.dup2, 1) := by decide +kernel
theorem dX10_clause_283 : decode cX10_clause 283 = .ok (.iaload, 1) := by decide +kernel
theorem dX10_clause_284 : decode cX10_clause 284 = .ok (.aload_n 0, 1) := by decide +kernel
theorem dX10_clause_285 : decode cX10_clause 285 = .ok (.getfield 111, 3) := by decide +kernel
theorem dX10_clause_288 : decode cX10_clause 288 = .ok (.ifCond .ne 7, 3) := by decide +kernel
theorem dX10_clause_291 : decode cX10_clause 291 = .ok (.iconst 1, 1) := by decide +kernel
theorem dX10_clause_292 : decode cX10_clause 292 = .ok (.goto 4, 3) := by decide +kernel
theorem dX10_clause_295 : decode cX10_clause 295 = .ok (.iconst 0, 1) := by decide +kernel
theorem dX10_clause_296 : decode cX10_clause 296 = .ok (.iadd, 1) := by decide +kernel
theorem dX10_clause_297 : decode cX10_clause 297 = .ok (.iastore, 1) := by decide +kernel
theorem dX10_clause_298 : decode cX10_clause 298 = .ok (.return_, 1) := by decide +kernel
theorem dX10_choir_0 : decode cX10_choir 0 = .ok (.aload_n 0, 1) := by decide +kernel
theorem dX10_choir_1 : decode cX10_choir 1 = .ok (.iconst 0, 1) := by decide +kernel
theorem dX10_choir_2 : decode cX10_choir 2 = .ok (.putfield 95, 3) := by decide +kernel
theorem dX10_choir_5 : decode cX10_choir 5 = .ok (.aload_n 0, 1) := by decide +kernel
theorem dX10_choir_6 : decode cX10_choir 6 = .ok (.iload_n 1, 1) := by decide +kernel
theorem dX10_choir_7 : decode cX10_choir 7 = .ok (.iconst 0, 1) := by decide +kernel
theorem dX10_choir_8 : decode cX10_choir 8 = .ok (.aload_n 0, 1) := by decide +kernel
theorem dX10_choir_9 : decode cX10_choir 9 = .ok (.getfield 98, 3) := by decide +kernel
theorem dX10_choir_12 : decode cX10_choir 12 = .ok (.invokestatic 129, 3) := by decide +kernel
theorem dX10_choir_15 : decode cX10_choir 15 = .ok (.ifCond .ne 7, 3) := by decide +kernel
theorem dX10_choir_18 : decode cX10_choir 18 = .ok (.iconst 1, 1) := by decide +kernel
theorem dX10_choir_19 : decode cX10_choir 19 = .ok (.goto 4, 3) := by decide +kernel
theorem dX10_choir_22 : decode cX10_choir 22 = .ok (.iconst 0, 1) := by decide +kernel
theorem dX10_choir_23 : decode cX10_choir 23 = .ok (.iconst 1, 1) := by decide +kernel
theorem dX10_choir_24 : decode cX10_choir 24 = .ok (.iconst 1, 1) := by decide +kernel
theorem dX10_choir_25 : decode cX10_choir 25 = .ok (.invokevirtual 171, 3) := by decide +kernel
theorem dX10_choir_28 : decode cX10_choir 28 = .ok (.ifCond .eq 5, 3) := by decide +kernel
theorem dX10_choir_31 : decode cX10_choir 31 = .ok (.iconst 0, 1) := by decide +kernel
theorem dX10_choir_32 : decode cX10_choir 32 = .ok (.ireturn, 1) := by decide +kernel
theorem dX10_choir_33 : decode cX10_choir 33 = .ok (.aload_n 0, 1) := by decide +kernel
theorem dX10_choir_34 : decode cX10_choir 34 = .ok (.iload_n 1, 1) := by decide +kernel
theorem dX10_choir_35 : decode cX10_choir 35 = .ok (.invokevirtual 175, 3) := by decide +kernel
theorem dX10_choir_38 : decode cX10_choir 38 = .ok (.aload_n 0, 1) := by decide +kernel
theorem dX10_choir_39 : decode cX10_choir 39 = .ok (.invokevirtual 89, 3) := by decide +kernel
theorem dX10_choir_42 : decode cX10_choir 42 = .ok (.aload_n 0, 1) := by decide +kernel
theorem dX10_choir_43 : decode cX10_choir 43 = .ok (.getfield 111, 3) := by decide +kernel
theorem dX10_choir_46 : decode cX10_choir 46 = .ok (.ifCond .ne 25, 3) := by decide +kernel
theorem dX10_choir_49 : decode cX10_choir 49 = .ok (.aload_n 0, 1) := by decide +kernel
theorem dX10_choir_50 : decode cX10_choir 50 = .ok (.getfield 104, 3) := by decide +kernel
theorem dX10_choir_53 : decode cX10_choir 53 = .ok (.aload_n 0, 1) := by decide +kernel
theorem dX10_choir_54 : decode cX10_choir 54 = .ok (.getfield 101, 3) := by decide +kernel
theorem dX10_choir_57 : decode cX10_choir 57 = .ok (.if_icmp .ge 14, 3) := by decide +kernel
theorem dX10_choir_60 : decode cX10_choir 60 = .ok (.aload_n 0, 1) := by decide +kernel
theorem dX10_choir_61 : decode cX10_choir 61 = .ok (.invokevirtual 178, 3) := by decide +kernel
theorem dX10_choir_64 : decode cX10_choir 64 = .ok (.aload_n 0, 1) := by decide +kernel
theorem dX10_choir_65 : decode cX10_choir 65 = .ok (.invokevirtual 117, 3) := by decide +kernel
theorem dX10_choir_68 : decode cX10_choir 68 = .ok (.goto (-26), 3) := by decide +kernel
theorem dX10_choir_71 : decode cX10_choir 71 = .ok (.aload_n 0, 1) := by decide +kernel
theorem dX10_choir_72 : decode cX10_choir 72 = .ok (.getfield 111, 3) := by decide +kernel
theorem dX10_choir_75 : decode cX10_choir 75 = .ok (.ifCond .eq 8, 3) := by decide +kernel
theorem dX10_choir_78 : decode cX10_choir 78 = .ok (.aload_n 0, 1) := by decide +kernel
theorem dX10_choir_79 : decode cX10_choir 79 = .ok (.invokevirtual 181, 3) := by decide +kernel
theorem dX10_choir_82 : decode cX10_choir 82 = .ok (.ireturn, 1) := by decide +kernel
theorem dX10_choir_83 : decode cX10_choir 83 = .ok (.aload_n 0, 1) := by decide +kernel
theorem dX10_choir_84 : decode cX10_choir 84 = .ok (.iconst (-1), 1) := by decide +kernel
theorem dX10_choir_85 : decode cX10_choir 85 = .ok (.putfield 9, 3) := by decide +kernel
theorem dX10_choir_88 : decode cX10_choir 88 = .ok (.aload_n 0, 1) := by decide +kernel
theorem dX10_choir_89 : decode cX10_choir 89 = .ok (.invokevirtual 92, 3) := by decide +kernel
theorem dX10_choir_92 : decode cX10_choir 92 = .ok (.aload_n 0, 1) := by decide +kernel
theorem dX10_choir_93 : decode cX10_choir 93 = .ok (.getfield 23, 3) := by decide +kernel
theorem dX10_choir_96 : decode cX10_choir 96 = .ok (.iconst 0, 1) := by decide +kernel
theorem dX10_choir_97 : decode cX10_choir 97 = .ok (.iaload, 1) := by decide +kernel
theorem dX10_choir_98 : decode cX10_choir 98 = .ok (.ireturn, 1) := by decide +kernel
theorem dX10_lays_0 : decode cX10_lays 0 = .ok (.iconst 0, 1) := by decide +kernel
theorem dX10_lays_1 : decode cX10_lays 1 = .ok (.istore_n 3, 1) := by decide +kernel
theorem dX10_lays_2 : decode cX10_lays 2 = .ok (.iload_n 3, 1) := by decide +kernel
theorem dX10_lays_3 : decode cX10_lays 3 = .ok (.iload_n 2, 1) := by decide +kernel
theorem dX10_lays_4 : decode cX10_lays 4 = .ok (.if_icmp .ge 39, 3) := by decide +kernel
theorem dX10_lays_7 : decode cX10_lays 7 = .ok (.iconst 0, 1) := by decide +kernel
theorem dX10_lays_8 : decode cX10_lays 8 = .ok (.istore 4, 2) := by decide +kernel
theorem dX10_lays_10 : decode cX10_lays 10 = .ok (.iload 4, 2) := by decide +kernel
theorem dX10_lays_12 : decode cX10_lays 12 = .ok (.aload_n 1, 1) := by decide +kernel
theorem dX10_lays_13 : decode cX10_lays 13 = .ok (.iload_n 3, 1) := by decide +kernel
theorem dX10_lays_14 : decode cX10_lays 14 = .ok (.aaload, 1) := by decide +kernel
theorem dX10_lays_15 : decode cX10_lays 15 = .ok (.arraylength, 1) := by decide +kernel
theorem dX10_lays_16 : decode cX10_lays 16 = .ok (.if_icmp .ge 21, 3) := by decide +kernel
theorem dX10_lays_19 : decode cX10_lays 19 = .ok (.aload_n 1, 1) := by decide +kernel
theorem dX10_lays_20 : decode cX10_lays 20 = .ok (.iload_n 3, 1) := by decide +kernel
theorem dX10_lays_21 : decode cX10_lays 21 = .ok (.aaload, 1) := by decide +kernel
theorem dX10_lays_22 : decode cX10_lays 22 = .ok (.iload 4, 2) := by decide +kernel
theorem dX10_lays_24 : decode cX10_lays 24 = .ok (.aload_n 0, 1) := by decide +kernel
theorem dX10_lays_25 : decode cX10_lays 25 = .ok (.iload_n 3, 1) := by decide +kernel
theorem dX10_lays_26 : decode cX10_lays 26 = .ok (.aaload, 1) := by decide +kernel
theorem dX10_lays_27 : decode cX10_lays 27 = .ok (.iload 4, 2) := by decide +kernel
theorem dX10_lays_29 : decode cX10_lays 29 = .ok (.iaload, 1) := by decide +kernel
theorem dX10_lays_30 : decode cX10_lays 30 = .ok (.iastore, 1) := by decide +kernel
theorem dX10_lays_31 : decode cX10_lays 31 = .ok (.iinc 4 1, 3) := by decide +kernel
theorem dX10_lays_34 : decode cX10_lays 34 = .ok (.goto (-24), 3) := by decide +kernel
theorem dX10_lays_37 : decode cX10_lays 37 = .ok (.iinc 3 1, 3) := by decide +kernel
theorem dX10_lays_40 : decode cX10_lays 40 = .ok (.goto (-38), 3) := by decide +kernel
theorem dX10_lays_43 : decode cX10_lays 43 = .ok (.return_, 1) := by decide +kernel
theorem dX10_copies_0 : decode cX10_copies 0 = .ok (.iconst 0, 1) := by decide +kernel
theorem dX10_copies_1 : decode cX10_copies 1 = .ok (.istore_n 2, 1) := by decide +kernel
theorem dX10_copies_2 : decode cX10_copies 2 = .ok (.iload_n 2, 1) := by decide +kernel
theorem dX10_copies_3 : decode cX10_copies 3 = .ok (.bipush 57, 2) := by decide +kernel
theorem dX10_copies_5 : decode cX10_copies 5 = .ok (.if_icmp .ge 15, 3) := by decide +kernel
theorem dX10_copies_8 : decode cX10_copies 8 = .ok (.aload_n 1, 1) := by decide +kernel
theorem dX10_copies_9 : decode cX10_copies 9 = .ok (.iload_n 2, 1) := by decide +kernel
theorem dX10_copies_10 : decode cX10_copies 10 = .ok (.aload_n 0, 1) := by decide +kernel
theorem dX10_copies_11 : decode cX10_copies 11 = .ok (.iload_n 2, 1) := by decide +kernel
theorem dX10_copies_12 : decode cX10_copies 12 = .ok (.iaload, 1) := by decide +kernel
theorem dX10_copies_13 : decode cX10_copies 13 = .ok (.iastore, 1) := by decide +kernel
theorem dX10_copies_14 : decode cX10_copies 14 = .ok (.iinc 2 1, 3) := by decide +kernel
theorem dX10_copies_17 : decode cX10_copies 17 = .ok (.goto (-15), 3) := by decide +kernel
theorem dX10_copies_20 : decode cX10_copies 20 = .ok (.return_, 1) := by decide +kernel
theorem dX10_beginsAnew_0 : decode cX10_beginsAnew 0 = .ok (.iconst 0, 1) := by decide +kernel
theorem dX10_beginsAnew_1 : decode cX10_beginsAnew 1 = .ok (.istore_n 1, 1) := by decide +kernel
theorem dX10_beginsAnew_2 : decode cX10_beginsAnew 2 = .ok (.iload_n 1, 1) := by decide +kernel
theorem dX10_beginsAnew_3 : decode cX10_beginsAnew 3 = .ok (.iconst 4, 1) := by decide +kernel
theorem dX10_beginsAnew_4 : decode cX10_beginsAnew 4 = .ok (.if_icmp .ge 21, 3) := by decide +kernel
theorem dX10_beginsAnew_7 : decode cX10_beginsAnew 7 = .ok (.aload_n 0, 1) := by decide +kernel
theorem dX10_beginsAnew_8 : decode cX10_beginsAnew 8 = .ok (.getfield 23, 3) := by decide +kernel
theorem dX10_beginsAnew_11 : decode cX10_beginsAnew 11 = .ok (.iload_n 1, 1) := by decide +kernel
theorem dX10_beginsAnew_12 : decode cX10_beginsAnew 12 = .ok (.aload_n 0, 1) := by decide +kernel
theorem dX10_beginsAnew_13 : decode cX10_beginsAnew 13 = .ok (.getfield 20, 3) := by decide +kernel
theorem dX10_beginsAnew_16 : decode cX10_beginsAnew 16 = .ok (.iload_n 1, 1) := by decide +kernel
theorem dX10_beginsAnew_17 : decode cX10_beginsAnew 17 = .ok (.iaload, 1) := by decide +kernel
theorem dX10_beginsAnew_18 : decode cX10_beginsAnew 18 = .ok (.iastore, 1) := by decide +kernel
theorem dX10_beginsAnew_19 : decode cX10_beginsAnew 19 = .ok (.iinc 1 1, 3) := by decide +kernel
theorem dX10_beginsAnew_22 : decode cX10_beginsAnew 22 = .ok (.goto (-20), 3) := by decide +kernel
theorem dX10_beginsAnew_25 : decode cX10_beginsAnew 25 = .ok (.aload_n 0, 1) := by decide +kernel
theorem dX10_beginsAnew_26 : decode cX10_beginsAnew 26 = .ok (.getfield 28, 3) := by decide +kernel
theorem dX10_beginsAnew_29 : decode cX10_beginsAnew 29 = .ok (.aload_n 0, 1) := by decide +kernel
theorem dX10_beginsAnew_30 : decode cX10_beginsAnew 30 = .ok (.getfield 31, 3) := by decide +kernel
theorem dX10_beginsAnew_33 : decode cX10_beginsAnew 33 = .ok (.aload_n 0, 1) := by decide +kernel
theorem dX10_beginsAnew_34 : decode cX10_beginsAnew 34 = .ok (.getfield 23, 3) := by decide +kernel
theorem dX10_beginsAnew_37 : decode cX10_beginsAnew 37 = .ok (.iconst 0, 1) := by decide +kernel
theorem dX10_beginsAnew_38 : decode cX10_beginsAnew 38 = .ok (.iaload, 1) := by decide +kernel
theorem dX10_beginsAnew_39 : decode cX10_beginsAnew 39 = .ok (.invokestatic 184, 3) := by decide +kernel
theorem dX10_beginsAnew_42 : decode cX10_beginsAnew 42 = .ok (.aload_n 0, 1) := by decide +kernel
theorem dX10_beginsAnew_43 : decode cX10_beginsAnew 43 = .ok (.getfield 34, 3) := by decide +kernel
theorem dX10_beginsAnew_46 : decode cX10_beginsAnew 46 = .ok (.aload_n 0, 1) := by decide +kernel
theorem dX10_beginsAnew_47 : decode cX10_beginsAnew 47 = .ok (.getfield 37, 3) := by decide +kernel
theorem dX10_beginsAnew_50 : decode cX10_beginsAnew 50 = .ok (.aload_n 0, 1) := by decide +kernel
theorem dX10_beginsAnew_51 : decode cX10_beginsAnew 51 = .ok (.getfield 23, 3) := by decide +kernel
theorem dX10_beginsAnew_54 : decode cX10_beginsAnew 54 = .ok (.iconst 1, 1) := by decide +kernel
theorem dX10_beginsAnew_55 : decode cX10_beginsAnew 55 = .ok (.iaload, 1) := by decide +kernel
theorem dX10_beginsAnew_56 : decode cX10_beginsAnew 56 = .ok (.invokestatic 184, 3) := by decide +kernel
theorem dX10_beginsAnew_59 : decode cX10_beginsAnew 59 = .ok (.aload_n 0, 1) := by decide +kernel
theorem dX10_beginsAnew_60 : decode cX10_beginsAnew 60 = .ok (.getfield 40, 3) := by decide +kernel
theorem dX10_beginsAnew_63 : decode cX10_beginsAnew 63 = .ok (.aload_n 0, 1) := by decide +kernel
theorem dX10_beginsAnew_64 : decode cX10_beginsAnew 64 = .ok (.getfield 43, 3) := by decide +kernel
theorem dX10_beginsAnew_67 : decode cX10_beginsAnew 67 = .ok (.aload_n 0, 1) := by decide +kernel
theorem dX10_beginsAnew_68 : decode cX10_beginsAnew 68 = .ok (.getfield 23, 3) := by decide +kernel
theorem dX10_beginsAnew_71 : decode cX10_beginsAnew 71 = .ok (.iconst 2, 1) := by decide +kernel
theorem dX10_beginsAnew_72 : decode cX10_beginsAnew 72 = .ok (.iaload, 1) := by decide +kernel
theorem dX10_beginsAnew_73 : decode cX10_beginsAnew 73 = .ok (.invokestatic 184, 3) := by decide +kernel
theorem dX10_beginsAnew_76 : decode cX10_beginsAnew 76 = .ok (.iconst 0, 1) := by decide +kernel
theorem dX10_beginsAnew_77 : decode cX10_beginsAnew 77 = .ok (.istore_n 1, 1) := by decide +kernel
theorem dX10_beginsAnew_78 : decode cX10_beginsAnew 78 = .ok (.iload_n 1, 1) := by decide +kernel
theorem dX10_beginsAnew_79 : decode cX10_beginsAnew 79 = .ok (.bipush 57, 2) := by decide +kernel
theorem dX10_beginsAnew_81 : decode cX10_beginsAnew 81 = .ok (.if_icmp .ge 16, 3) := by decide +kernel
theorem dX10_beginsAnew_84 : decode cX10_beginsAnew 84 = .ok (.aload_n 0, 1) := by decide +kernel
theorem dX10_beginsAnew_85 : decode cX10_beginsAnew 85 = .ok (.getfield 67, 3) := by decide +kernel
theorem dX10_beginsAnew_88 : decode cX10_beginsAnew 88 = .ok (.iload_n 1, 1) := by decide +kernel
theorem dX10_beginsAnew_89 : decode cX10_beginsAnew 89 = .ok (.iconst 0, 1) := by decide +kernel
theorem dX10_beginsAnew_90 : decode cX10_beginsAnew 90 = .ok (.iastore, 1) := by decide +kernel
theorem dX10_beginsAnew_91 : decode cX10_beginsAnew 91 = .ok (.iinc 1 1, 3) := by decide +kernel
theorem dX10_beginsAnew_94 : decode cX10_beginsAnew 94 = .ok (.goto (-16), 3) := by decide +kernel
theorem dX10_beginsAnew_97 : decode cX10_beginsAnew 97 = .ok (.aload_n 0, 1) := by decide +kernel
theorem dX10_beginsAnew_98 : decode cX10_beginsAnew 98 = .ok (.aload_n 0, 1) := by decide +kernel
theorem dX10_beginsAnew_99 : decode cX10_beginsAnew 99 = .ok (.getfield 67, 3) := by decide +kernel
theorem dX10_beginsAnew_102 : decode cX10_beginsAnew 102 = .ok (.invokevirtual 188, 3) := by decide +kernel
theorem dX10_beginsAnew_105 : decode cX10_beginsAnew 105 = .ok (.iconst 0, 1) := by decide +kernel
theorem dX10_beginsAnew_106 : decode cX10_beginsAnew 106 = .ok (.istore_n 1, 1) := by decide +kernel
theorem dX10_beginsAnew_107 : decode cX10_beginsAnew 107 = .ok (.iload_n 1, 1) := by decide +kernel
theorem dX10_beginsAnew_108 : decode cX10_beginsAnew 108 = .ok (.aload_n 0, 1) := by decide +kernel
theorem dX10_beginsAnew_109 : decode cX10_beginsAnew 109 = .ok (.getfield 23, 3) := by decide +kernel
theorem dX10_beginsAnew_112 : decode cX10_beginsAnew 112 = .ok (.iconst 1, 1) := by decide +kernel
theorem dX10_beginsAnew_113 : decode cX10_beginsAnew 113 = .ok (.iaload, 1) := by decide +kernel
theorem dX10_beginsAnew_114 : decode cX10_beginsAnew 114 = .ok (.if_icmp .ge 26, 3) := by decide +kernel
theorem dX10_beginsAnew_117 : decode cX10_beginsAnew 117 = .ok (.aload_n 0, 1) := by decide +kernel
theorem dX10_beginsAnew_118 : decode cX10_beginsAnew 118 = .ok (.getfield 67, 3) := by decide +kernel
theorem dX10_beginsAnew_121 : decode cX10_beginsAnew 121 = .ok (.bipush 35, 2) := by decide +kernel
theorem dX10_beginsAnew_123 : decode cX10_beginsAnew 123 = .ok (.iload_n 1, 1) := by decide +kernel
theorem dX10_beginsAnew_124 : decode cX10_beginsAnew 124 = .ok (.iadd, 1) := by decide +kernel
theorem dX10_beginsAnew_125 : decode cX10_beginsAnew 125 = .ok (.aload_n 0, 1) := by decide +kernel
theorem dX10_beginsAnew_126 : decode cX10_beginsAnew 126 = .ok (.getfield 37, 3) := by decide +kernel
theorem dX10_beginsAnew_129 : decode cX10_beginsAnew 129 = .ok (.iload_n 1, 1) := by decide +kernel
theorem dX10_beginsAnew_130 : decode cX10_beginsAnew 130 = .ok (.aaload, 1) := by decide +kernel
theorem dX10_beginsAnew_131 : decode cX10_beginsAnew 131 = .ok (.iconst 0, 1) := by decide +kernel
theorem dX10_beginsAnew_132 : decode cX10_beginsAnew 132 = .ok (.iaload, 1) := by decide +kernel
theorem dX10_beginsAnew_133 : decode cX10_beginsAnew 133 = .ok (.iastore, 1) := by decide +kernel
theorem dX10_beginsAnew_134 : decode cX10_beginsAnew 134 = .ok (.iinc 1 1, 3) := by decide +kernel
theorem dX10_beginsAnew_137 : decode cX10_beginsAnew 137 = .ok (.goto (-30), 3) := by decide +kernel
theorem dX10_beginsAnew_140 : decode cX10_beginsAnew 140 = .ok (.aload_n 0, 1) := by decide +kernel
theorem dX10_beginsAnew_141 : decode cX10_beginsAnew 141 = .ok (.iconst 0, 1) := by decide +kernel
theorem dX10_beginsAnew_142 : decode cX10_beginsAnew 142 = .ok (.putfield 192, 3) := by decide +kernel
theorem dX10_beginsAnew_145 : decode cX10_beginsAnew 145 = .ok (.aload_n 0, 1) := by decide +kernel
theorem dX10_beginsAnew_146 : decode cX10_beginsAnew 146 = .ok (.iconst 0, 1) := by decide +kernel
theorem dX10_beginsAnew_147 : decode cX10_beginsAnew 147 = .ok (.putfield 195, 3) := by decide +kernel
theorem dX10_beginsAnew_150 : decode cX10_beginsAnew 150 = .ok (.aload_n 0, 1) := by decide +kernel
theorem dX10_beginsAnew_151 : decode cX10_beginsAnew 151 = .ok (.iconst 0, 1) := by decide +kernel
theorem dX10_beginsAnew_152 : decode cX10_beginsAnew 152 = .ok (.putfield 198, 3) := by decide +kernel
theorem dX10_beginsAnew_155 : decode cX10_beginsAnew 155 = .ok (.aload_n 0, 1) := by decide +kernel
theorem dX10_beginsAnew_156 : decode cX10_beginsAnew 156 = .ok (.iconst 0, 1) := by decide +kernel
theorem dX10_beginsAnew_157 : decode cX10_beginsAnew 157 = .ok (.putfield 201, 3) := by decide +kernel
theorem dX10_beginsAnew_160 : decode cX10_beginsAnew 160 = .ok (.aload_n 0, 1) := by decide +kernel
theorem dX10_beginsAnew_161 : decode cX10_beginsAnew 161 = .ok (.iconst 0, 1) := by decide +kernel
theorem dX10_beginsAnew_162 : decode cX10_beginsAnew 162 = .ok (.putfield 204, 3) := by decide +kernel
theorem dX10_beginsAnew_165 : decode cX10_beginsAnew 165 = .ok (.return_, 1) := by decide +kernel
theorem dX10_breathes_0 : decode cX10_breathes 0 = .ok (.iconst 0, 1) := by decide +kernel
theorem dX10_breathes_1 : decode cX10_breathes 1 = .ok (.istore_n 2, 1) := by decide +kernel
theorem dX10_breathes_2 : decode cX10_breathes 2 = .ok (.iload_n 2, 1) := by decide +kernel
theorem dX10_breathes_3 : decode cX10_breathes 3 = .ok (.aload_n 0, 1) := by decide +kernel
theorem dX10_breathes_4 : decode cX10_breathes 4 = .ok (.getfield 23, 3) := by decide +kernel
theorem dX10_breathes_7 : decode cX10_breathes 7 = .ok (.iconst 0, 1) := by decide +kernel
theorem dX10_breathes_8 : decode cX10_breathes 8 = .ok (.iaload, 1) := by decide +kernel
theorem dX10_breathes_9 : decode cX10_breathes 9 = .ok (.if_icmp .ge 22, 3) := by decide +kernel
theorem dX10_breathes_12 : decode cX10_breathes 12 = .ok (.aload_n 1, 1) := by decide +kernel
theorem dX10_breathes_13 : decode cX10_breathes 13 = .ok (.iconst 0, 1) := by decide +kernel
theorem dX10_breathes_14 : decode cX10_breathes 14 = .ok (.iload_n 2, 1) := by decide +kernel
theorem dX10_breathes_15 : decode cX10_breathes 15 = .ok (.iadd, 1) := by decide +kernel
theorem dX10_breathes_16 : decode cX10_breathes 16 = .ok (.aload_n 0, 1) := by decide +kernel
theorem dX10_breathes_17 : decode cX10_breathes 17 = .ok (.getfield 31, 3) := by decide +kernel
theorem dX10_breathes_20 : decode cX10_breathes 20 = .ok (.iload_n 2, 1) := by decide +kernel
theorem dX10_breathes_21 : decode cX10_breathes 21 = .ok (.aaload, 1) := by decide +kernel
theorem dX10_breathes_22 : decode cX10_breathes 22 = .ok (.iconst 2, 1) := by decide +kernel
theorem dX10_breathes_23 : decode cX10_breathes 23 = .ok (.iaload, 1) := by decide +kernel
theorem dX10_breathes_24 : decode cX10_breathes 24 = .ok (.iastore, 1) := by decide +kernel
theorem dX10_breathes_25 : decode cX10_breathes 25 = .ok (.iinc 2 1, 3) := by decide +kernel
theorem dX10_breathes_28 : decode cX10_breathes 28 = .ok (.goto (-26), 3) := by decide +kernel
theorem dX10_breathes_31 : decode cX10_breathes 31 = .ok (.return_, 1) := by decide +kernel
theorem dX10_notes_0 : decode cX10_notes 0 = .ok (.aload_n 0, 1) := by decide +kernel
theorem dX10_notes_1 : decode cX10_notes 1 = .ok (.getfield 111, 3) := by decide +kernel
theorem dX10_notes_4 : decode cX10_notes 4 = .ok (.ifCond .eq 4, 3) := by decide +kernel
theorem dX10_notes_7 : decode cX10_notes 7 = .ok (.return_, 1) := by decide +kernel
theorem dX10_notes_8 : decode cX10_notes 8 = .ok (.aload_n 0, 1) := by decide +kernel
theorem dX10_notes_9 : decode cX10_notes 9 = .ok (.getfield 49, 3) := by decide +kernel
theorem dX10_notes_12 : decode cX10_notes 12 = .ok (.aload_n 0, 1) := by decide +kernel
theorem dX10_notes_13 : decode cX10_notes 13 = .ok (.getfield 207, 3) := by decide +kernel
theorem dX10_notes_16 : decode cX10_notes 16 = .ok (.aaload, 1) := by decide +kernel
theorem dX10_notes_17 : decode cX10_notes 17 = .ok (.iconst 0, 1) := by decide +kernel
theorem dX10_notes_18 : decode cX10_notes 18 = .ok (.iload_n 1, 1) := by decide +kernel
theorem dX10_notes_19 : decode cX10_notes 19 = .ok (.iastore, 1) := by decide +kernel
theorem dX10_notes_20 : decode cX10_notes 20 = .ok (.aload_n 0, 1) := by decide +kernel
theorem dX10_notes_21 : decode cX10_notes 21 = .ok (.getfield 49, 3) := by decide +kernel
theorem dX10_notes_24 : decode cX10_notes 24 = .ok (.aload_n 0, 1) := by decide +kernel
theorem dX10_notes_25 : decode cX10_notes 25 = .ok (.getfield 207, 3) := by decide +kernel
theorem dX10_notes_28 : decode cX10_notes 28 = .ok (.aaload, 1) := by decide +kernel
theorem dX10_notes_29 : decode cX10_notes 29 = .ok (.iconst 1, 1) := by decide +kernel
theorem dX10_notes_30 : decode cX10_notes 30 = .ok (.iload_n 2, 1) := by decide +kernel
theorem dX10_notes_31 : decode cX10_notes 31 = .ok (.iastore, 1) := by decide +kernel
theorem dX10_notes_32 : decode cX10_notes 32 = .ok (.aload_n 0, 1) := by decide +kernel
theorem dX10_notes_33 : decode cX10_notes 33 = .ok (.dup, 1) := by decide +kernel
theorem dX10_notes_34 : decode cX10_notes 34 = .ok (.getfield 207, 3) := by decide +kernel
theorem dX10_notes_37 : decode cX10_notes 37 = .ok (.iconst 1, 1) := by decide +kernel
theorem dX10_notes_38 : decode cX10_notes 38 = .ok (.iadd, 1) := by decide +kernel
theorem dX10_notes_39 : decode cX10_notes 39 = .ok (.putfield 207, 3) := by decide +kernel
theorem dX10_notes_42 : decode cX10_notes 42 = .ok (.return_, 1) := by decide +kernel
theorem dX10_opensOne_0 : decode cX10_opensOne 0 = .ok (.aload_n 0, 1) := by decide +kernel
theorem dX10_opensOne_1 : decode cX10_opensOne 1 = .ok (.getfield 111, 3) := by decide +kernel
theorem dX10_opensOne_4 : decode cX10_opensOne 4 = .ok (.ifCond .ne 24, 3) := by decide +kernel
theorem dX10_opensOne_7 : decode cX10_opensOne 7 = .ok (.aload_n 0, 1) := by decide +kernel
theorem dX10_opensOne_8 : decode cX10_opensOne 8 = .ok (.getfield 154, 3) := by decide +kernel
theorem dX10_opensOne_11 : decode cX10_opensOne 11 = .ok (.bipush 6, 2) := by decide +kernel
theorem dX10_opensOne_13 : decode cX10_opensOne 13 = .ok (.if_icmp .ne 15, 3) := by decide +kernel
theorem dX10_opensOne_16 : decode cX10_opensOne 16 = .ok (.aload_n 0, 1) := by decide +kernel
theorem dX10_opensOne_17 : decode cX10_opensOne 17 = .ok (.iconst 3, 1) := by decide +kernel
theorem dX10_opensOne_18 : decode cX10_opensOne 18 = .ok (.aload_n 0, 1) := by decide +kernel
theorem dX10_opensOne_19 : decode cX10_opensOne 19 = .ok (.getfield 104, 3) := by decide +kernel
theorem dX10_opensOne_22 : decode cX10_opensOne 22 = .ok (.invokevirtual 124, 3) := by decide +kernel
theorem dX10_opensOne_25 : decode cX10_opensOne 25 = .ok (.goto 20, 3) := by decide +kernel
theorem dX10_opensOne_28 : decode cX10_opensOne 28 = .ok (.aload_n 0, 1) := by decide +kernel
theorem dX10_opensOne_29 : decode cX10_opensOne 29 = .ok (.getfield 111, 3) := by decide +kernel
theorem dX10_opensOne_32 : decode cX10_opensOne 32 = .ok (.ifCond .ne 13, 3) := by decide +kernel
theorem dX10_opensOne_35 : decode cX10_opensOne 35 = .ok (.aload_n 0, 1) := by decide +kernel
theorem dX10_opensOne_36 : decode cX10_opensOne 36 = .ok (.dup, 1) := by decide +kernel
theorem dX10_opensOne_37 : decode cX10_opensOne 37 = .ok (.getfield 154, 3) := by decide +kernel
theorem dX10_opensOne_40 : decode cX10_opensOne 40 = .ok (.iconst 1, 1) := by decide +kernel
theorem dX10_opensOne_41 : decode cX10_opensOne 41 = .ok (.iadd, 1) := by decide +kernel
theorem dX10_opensOne_42 : decode cX10_opensOne 42 = .ok (.putfield 154, 3) := by decide +kernel
theorem dX10_opensOne_45 : decode cX10_opensOne 45 = .ok (.aload_n 0, 1) := by decide +kernel
theorem dX10_opensOne_46 : decode cX10_opensOne 46 = .ok (.getfield 111, 3) := by decide +kernel
theorem dX10_opensOne_49 : decode cX10_opensOne 49 = .ok (.ifCond .ne 7, 3) := by decide +kernel
theorem dX10_opensOne_52 : decode cX10_opensOne 52 = .ok (.iconst 1, 1) := by decide +kernel
theorem dX10_opensOne_53 : decode cX10_opensOne 53 = .ok (.goto 4, 3) := by decide +kernel
theorem dX10_opensOne_56 : decode cX10_opensOne 56 = .ok (.iconst 0, 1) := by decide +kernel
theorem dX10_opensOne_57 : decode cX10_opensOne 57 = .ok (.ireturn, 1) := by decide +kernel
theorem dX10_sum_0 : decode cX10_sum 0 = .ok (.aload_n 0, 1) := by decide +kernel
theorem dX10_sum_1 : decode cX10_sum 1 = .ok (.invokevirtual 210, 3) := by decide +kernel
theorem dX10_sum_4 : decode cX10_sum 4 = .ok (.aload_n 0, 1) := by decide +kernel
theorem dX10_sum_5 : decode cX10_sum 5 = .ok (.getfield 111, 3) := by decide +kernel
theorem dX10_sum_8 : decode cX10_sum 8 = .ok (.ifCond .ne 50, 3) := by decide +kernel
theorem dX10_sum_11 : decode cX10_sum 11 = .ok (.aload_n 0, 1) := by decide +kernel
theorem dX10_sum_12 : decode cX10_sum 12 = .ok (.bipush 43, 2) := by decide +kernel
theorem dX10_sum_14 : decode cX10_sum 14 = .ok (.invokevirtual 213, 3) := by decide +kernel
theorem dX10_sum_17 : decode cX10_sum 17 = .ok (.ifCond .eq 7, 3) := by decide +kernel
theorem dX10_sum_20 : decode cX10_sum 20 = .ok (.iconst 2, 1) := by decide +kernel
theorem dX10_sum_21 : decode cX10_sum 21 = .ok (.goto 17, 3) := by decide +kernel
theorem dX10_sum_24 : decode cX10_sum 24 = .ok (.aload_n 0, 1) := by decide +kernel
theorem dX10_sum_25 : decode cX10_sum 25 = .ok (.bipush 45, 2) := by decide +kernel
theorem dX10_sum_27 : decode cX10_sum 27 = .ok (.invokevirtual 213, 3) := by decide +kernel
theorem dX10_sum_30 : decode cX10_sum 30 = .ok (.ifCond .eq 7, 3) := by decide +kernel
theorem dX10_sum_33 : decode cX10_sum 33 = .ok (.iconst 3, 1) := by decide +kernel
theorem dX10_sum_34 : decode cX10_sum 34 = .ok (.goto 4, 3) := by decide +kernel
theorem dX10_sum_37 : decode cX10_sum 37 = .ok (.iconst (-1), 1) := by decide +kernel
theorem dX10_sum_38 : decode cX10_sum 38 = .ok (.istore_n 1, 1) := by decide +kernel
theorem dX10_sum_39 : decode cX10_sum 39 = .ok (.iload_n 1, 1) := by decide +kernel
theorem dX10_sum_40 : decode cX10_sum 40 = .ok (.iconst (-1), 1) := by decide +kernel
theorem dX10_sum_41 : decode cX10_sum 41 = .ok (.if_icmp .ne 4, 3) := by decide +kernel
theorem dX10_sum_44 : decode cX10_sum 44 = .ok (.return_, 1) := by decide +kernel
theorem dX10_sum_45 : decode cX10_sum 45 = .ok (.aload_n 0, 1) := by decide +kernel
theorem dX10_sum_46 : decode cX10_sum 46 = .ok (.invokevirtual 210, 3) := by decide +kernel
theorem dX10_sum_49 : decode cX10_sum 49 = .ok (.aload_n 0, 1) := by decide +kernel
theorem dX10_sum_50 : decode cX10_sum 50 = .ok (.iload_n 1, 1) := by decide +kernel
theorem dX10_sum_51 : decode cX10_sum 51 = .ok (.iconst 0, 1) := by decide +kernel
theorem dX10_sum_52 : decode cX10_sum 52 = .ok (.invokevirtual 216, 3) := by decide +kernel
theorem dX10_sum_55 : decode cX10_sum 55 = .ok (.goto (-51), 3) := by decide +kernel
theorem dX10_sum_58 : decode cX10_sum 58 = .ok (.return_, 1) := by decide +kernel
theorem dX10_product_0 : decode cX10_product 0 = .ok (.aload_n 0, 1) := by decide +kernel
theorem dX10_product_1 : decode cX10_product 1 = .ok (.invokevirtual 219, 3) := by decide +kernel
theorem dX10_product_4 : decode cX10_product 4 = .ok (.aload_n 0, 1) := by decide +kernel
theorem dX10_product_5 : decode cX10_product 5 = .ok (.getfield 111, 3) := by decide +kernel
theorem dX10_product_8 : decode cX10_product 8 = .ok (.ifCond .ne 64, 3) := by decide +kernel
theorem dX10_product_11 : decode cX10_product 11 = .ok (.aload_n 0, 1) := by decide +kernel
theorem dX10_product_12 : decode cX10_product 12 = .ok (.bipush 42, 2) := by decide +kernel
theorem dX10_product_14 : decode cX10_product 14 = .ok (.invokevirtual 213, 3) := by decide +kernel
theorem dX10_product_17 : decode cX10_product 17 = .ok (.ifCond .eq 7, 3) := by decide +kernel
theorem dX10_product_20 : decode cX10_product 20 = .ok (.iconst 4, 1) := by decide +kernel
theorem dX10_product_21 : decode cX10_product 21 = .ok (.goto 31, 3) := by decide +kernel
theorem dX10_product_24 : decode cX10_product 24 = .ok (.aload_n 0, 1) := by decide +kernel
theorem dX10_product_25 : decode cX10_product 25 = .ok (.bipush 47, 2) := by decide +kernel
theorem dX10_product_27 : decode cX10_product 27 = .ok (.invokevirtual 213, 3) := by decide +kernel
theorem dX10_product_30 : decode cX10_product 30 = .ok (.ifCond .eq 7, 3) := by decide +kernel
theorem dX10_product_33 : decode cX10_product 33 = .ok (.iconst 5, 1) := by decide +kernel
theorem dX10_product_34 : decode cX10_product 34 = .ok (.goto 18, 3) := by decide +kernel
theorem dX10_product_37 : decode cX10_product 37 = .ok (.aload_n 0, 1) := by decide +kernel
theorem dX10_product_38 : decode cX10_product 38 = .ok (.bipush 37, 2) := by decide +kernel
theorem dX10_product_40 : decode cX10_product 40 = .ok (.invokevirtual 213, 3) := by decide +kernel
theorem dX10_product_43 : decode cX10_product 43 = .ok (.ifCond .eq 8, 3) := by decide +kernel
theorem dX10_product_46 : decode cX10_product 46 = .ok (.bipush 6, 2) := by decide +kernel
theorem dX10_product_48 : decode cX10_product 48 = .ok (.goto 4, 3) := by decide +kernel
theorem dX10_product_51 : decode cX10_product 51 = .ok (.iconst (-1), 1) := by decide +kernel
theorem dX10_product_52 : decode cX10_product 52 = .ok (.istore_n 1, 1) := by decide +kernel
theorem dX10_product_53 : decode cX10_product 53 = .ok (.iload_n 1, 1) := by decide +kernel
theorem dX10_product_54 : decode cX10_product 54 = .ok (.iconst (-1), 1) := by decide +kernel
theorem dX10_product_55 : decode cX10_product 55 = .ok (.if_icmp .ne 4, 3) := by decide +kernel
theorem dX10_product_58 : decode cX10_product 58 = .ok (.return_, 1) := by decide +kernel
theorem dX10_product_59 : decode cX10_product 59 = .ok (.aload_n 0, 1) := by decide +kernel
theorem dX10_product_60 : decode cX10_product 60 = .ok (.invokevirtual 219, 3) := by decide +kernel
theorem dX10_product_63 : decode cX10_product 63 = .ok (.aload_n 0, 1) := by decide +kernel
theorem dX10_product_64 : decode cX10_product 64 = .ok (.iload_n 1, 1) := by decide +kernel
theorem dX10_product_65 : decode cX10_product 65 = .ok (.iconst 0, 1) := by decide +kernel
theorem dX10_product_66 : decode cX10_product 66 = .ok (.invokevirtual 216, 3) := by decide +kernel
theorem dX10_product_69 : decode cX10_product 69 = .ok (.goto (-65), 3) := by decide +kernel
theorem dX10_product_72 : decode cX10_product 72 = .ok (.return_, 1) := by decide +kernel
theorem dX10_knownHere_0 : decode cX10_knownHere 0 = .ok (.aload_n 0, 1) := by decide +kernel
theorem dX10_knownHere_1 : decode cX10_knownHere 1 = .ok (.bipush 12, 2) := by decide +kernel
theorem dX10_knownHere_3 : decode cX10_knownHere 3 = .ok (.iconst 5, 1) := by decide +kernel
theorem dX10_knownHere_4 : decode cX10_knownHere 4 = .ok (.bipush 14, 2) := by decide +kernel
theorem dX10_knownHere_6 : decode cX10_knownHere 6 = .ok (.bipush 7, 2) := by decide +kernel
theorem dX10_knownHere_8 : decode cX10_knownHere 8 = .ok (.bipush 20, 2) := by decide +kernel
theorem dX10_knownHere_10 : decode cX10_knownHere 10 = .ok (.bipush 8, 2) := by decide +kernel
theorem dX10_knownHere_12 : decode cX10_knownHere 12 = .ok (.invokevirtual 222, 3) := by decide +kernel
theorem dX10_knownHere_15 : decode cX10_knownHere 15 = .ok (.ifCond .eq 5, 3) := by decide +kernel
theorem dX10_knownHere_18 : decode cX10_knownHere 18 = .ok (.iconst 0, 1) := by decide +kernel
theorem dX10_knownHere_19 : decode cX10_knownHere 19 = .ok (.ireturn, 1) := by decide +kernel
theorem dX10_knownHere_20 : decode cX10_knownHere 20 = .ok (.aload_n 0, 1) := by decide +kernel
theorem dX10_knownHere_21 : decode cX10_knownHere 21 = .ok (.bipush 16, 2) := by decide +kernel
theorem dX10_knownHere_23 : decode cX10_knownHere 23 = .ok (.iconst 1, 1) := by decide +kernel
theorem dX10_knownHere_24 : decode cX10_knownHere 24 = .ok (.bipush 25, 2) := by decide +kernel
theorem dX10_knownHere_26 : decode cX10_knownHere 26 = .ok (.iconst 0, 1) := by decide +kernel
theorem dX10_knownHere_27 : decode cX10_knownHere 27 = .ok (.iconst 0, 1) := by decide +kernel
theorem dX10_knownHere_28 : decode cX10_knownHere 28 = .ok (.iconst 0, 1) := by decide +kernel
theorem dX10_knownHere_29 : decode cX10_knownHere 29 = .ok (.invokevirtual 222, 3) := by decide +kernel
theorem dX10_knownHere_32 : decode cX10_knownHere 32 = .ok (.ifCond .eq 5, 3) := by decide +kernel
theorem dX10_knownHere_35 : decode cX10_knownHere 35 = .ok (.iconst 1, 1) := by decide +kernel
theorem dX10_knownHere_36 : decode cX10_knownHere 36 = .ok (.ireturn, 1) := by decide +kernel
theorem dX10_knownHere_37 : decode cX10_knownHere 37 = .ok (.aload_n 0, 1) := by decide +kernel
theorem dX10_knownHere_38 : decode cX10_knownHere 38 = .ok (.bipush 12, 2) := by decide +kernel
theorem dX10_knownHere_40 : decode cX10_knownHere 40 = .ok (.iconst 5, 1) := by decide +kernel
theorem dX10_knownHere_41 : decode cX10_knownHere 41 = .ok (.bipush 6, 2) := by decide +kernel
theorem dX10_knownHere_43 : decode cX10_knownHere 43 = .ok (.bipush 20, 2) := by decide +kernel
theorem dX10_knownHere_45 : decode cX10_knownHere 45 = .ok (.iconst 0, 1) := by decide +kernel
theorem dX10_knownHere_46 : decode cX10_knownHere 46 = .ok (.iconst 0, 1) := by decide +kernel
theorem dX10_knownHere_47 : decode cX10_knownHere 47 = .ok (.invokevirtual 222, 3) := by decide +kernel
theorem dX10_knownHere_50 : decode cX10_knownHere 50 = .ok (.ifCond .eq 5, 3) := by decide +kernel
theorem dX10_knownHere_53 : decode cX10_knownHere 53 = .ok (.iconst 2, 1) := by decide +kernel
theorem dX10_knownHere_54 : decode cX10_knownHere 54 = .ok (.ireturn, 1) := by decide +kernel
theorem dX10_knownHere_55 : decode cX10_knownHere 55 = .ok (.aload_n 0, 1) := by decide +kernel
theorem dX10_knownHere_56 : decode cX10_knownHere 56 = .ok (.bipush 19, 2) := by decide +kernel
theorem dX10_knownHere_58 : decode cX10_knownHere 58 = .ok (.bipush 21, 2) := by decide +kernel
theorem dX10_knownHere_60 : decode cX10_knownHere 60 = .ok (.bipush 14, 2) := by decide +kernel
theorem dX10_knownHere_62 : decode cX10_knownHere 62 = .ok (.bipush 7, 2) := by decide +kernel
theorem dX10_knownHere_64 : decode cX10_knownHere 64 = .ok (.iconst 0, 1) := by decide +kernel
theorem dX10_knownHere_65 : decode cX10_knownHere 65 = .ok (.iconst 0, 1) := by decide +kernel
theorem dX10_knownHere_66 : decode cX10_knownHere 66 = .ok (.invokevirtual 222, 3) := by decide +kernel
theorem dX10_knownHere_69 : decode cX10_knownHere 69 = .ok (.ifCond .eq 5, 3) := by decide +kernel
theorem dX10_knownHere_72 : decode cX10_knownHere 72 = .ok (.iconst 3, 1) := by decide +kernel
theorem dX10_knownHere_73 : decode cX10_knownHere 73 = .ok (.ireturn, 1) := by decide +kernel
theorem dX10_knownHere_74 : decode cX10_knownHere 74 = .ok (.aload_n 0, 1) := by decide +kernel
theorem dX10_knownHere_75 : decode cX10_knownHere 75 = .ok (.bipush 14, 2) := by decide +kernel
theorem dX10_knownHere_77 : decode cX10_knownHere 77 = .ok (.bipush 15, 2) := by decide +kernel
theorem dX10_knownHere_79 : decode cX10_knownHere 79 = .ok (.bipush 20, 2) := by decide +kernel
theorem dX10_knownHere_81 : decode cX10_knownHere 81 = .ok (.iconst 5, 1) := by decide +kernel
theorem dX10_knownHere_82 : decode cX10_knownHere 82 = .ok (.iconst 0, 1) := by decide +kernel
theorem dX10_knownHere_83 : decode cX10_knownHere 83 = .ok (.iconst 0, 1) := by decide +kernel
theorem dX10_knownHere_84 : decode cX10_knownHere 84 = .ok (.invokevirtual 222, 3) := by decide +kernel
theorem dX10_knownHere_87 : decode cX10_knownHere 87 = .ok (.ifCond .eq 5, 3) := by decide +kernel
theorem dX10_knownHere_90 : decode cX10_knownHere 90 = .ok (.iconst 4, 1) := by decide +kernel
theorem dX10_knownHere_91 : decode cX10_knownHere 91 = .ok (.ireturn, 1) := by decide +kernel
theorem dX10_knownHere_92 : decode cX10_knownHere 92 = .ok (.aload_n 0, 1) := by decide +kernel
theorem dX10_knownHere_93 : decode cX10_knownHere 93 = .ok (.bipush 22, 2) := by decide +kernel
theorem dX10_knownHere_95 : decode cX10_knownHere 95 = .ok (.bipush 15, 2) := by decide +kernel
theorem dX10_knownHere_97 : decode cX10_knownHere 97 = .ok (.bipush 23, 2) := by decide +kernel
theorem dX10_knownHere_99 : decode cX10_knownHere 99 = .ok (.iconst 5, 1) := by decide +kernel
theorem dX10_knownHere_100 : decode cX10_knownHere 100 = .ok (.bipush 12, 2) := by decide +kernel
theorem dX10_knownHere_102 : decode cX10_knownHere 102 = .ok (.iconst 0, 1) := by decide +kernel
theorem dX10_knownHere_103 : decode cX10_knownHere 103 = .ok (.invokevirtual 222, 3) := by decide +kernel
theorem dX10_knownHere_106 : decode cX10_knownHere 106 = .ok (.ifCond .eq 5, 3) := by decide +kernel
theorem dX10_knownHere_109 : decode cX10_knownHere 109 = .ok (.iconst 5, 1) := by decide +kernel
theorem dX10_knownHere_110 : decode cX10_knownHere 110 = .ok (.ireturn, 1) := by decide +kernel
theorem dX10_knownHere_111 : decode cX10_knownHere 111 = .ok (.aload_n 0, 1) := by decide +kernel
theorem dX10_knownHere_112 : decode cX10_knownHere 112 = .ok (.iconst 4, 1) := by decide +kernel
theorem dX10_knownHere_113 : decode cX10_knownHere 113 = .ok (.iconst 1, 1) := by decide +kernel
theorem dX10_knownHere_114 : decode cX10_knownHere 114 = .ok (.bipush 25, 2) := by decide +kernel
theorem dX10_knownHere_116 : decode cX10_knownHere 116 = .ok (.iconst 0, 1) := by decide +kernel
theorem dX10_knownHere_117 : decode cX10_knownHere 117 = .ok (.iconst 0, 1) := by decide +kernel
theorem dX10_knownHere_118 : decode cX10_knownHere 118 = .ok (.iconst 0, 1) := by decide +kernel
theorem dX10_knownHere_119 : decode cX10_knownHere 119 = .ok (.invokevirtual 222, 3) := by decide +kernel
theorem dX10_knownHere_122 : decode cX10_knownHere 122 = .ok (.ifCond .eq 6, 3) := by decide +kernel
theorem dX10_knownHere_125 : decode cX10_knownHere 125 = .ok (.bipush 6, 2) := by decide +kernel
theorem dX10_knownHere_127 : decode cX10_knownHere 127 = .ok (.ireturn, 1) := by decide +kernel
theorem dX10_knownHere_128 : decode cX10_knownHere 128 = .ok (.aload_n 0, 1) := by decide +kernel
theorem dX10_knownHere_129 : decode cX10_knownHere 129 = .ok (.bipush 19, 2) := by decide +kernel
theorem dX10_knownHere_131 : decode cX10_knownHere 131 = .ok (.bipush 9, 2) := by decide +kernel
theorem dX10_knownHere_133 : decode cX10_knownHere 133 = .ok (.bipush 14, 2) := by decide +kernel
theorem dX10_knownHere_135 : decode cX10_knownHere 135 = .ok (.bipush 7, 2) := by decide +kernel
theorem dX10_knownHere_137 : decode cX10_knownHere 137 = .ok (.iconst 5, 1) := by decide +kernel
theorem dX10_knownHere_138 : decode cX10_knownHere 138 = .ok (.bipush 18, 2) := by decide +kernel
theorem dX10_knownHere_140 : decode cX10_knownHere 140 = .ok (.invokevirtual 222, 3) := by decide +kernel
theorem dX10_knownHere_143 : decode cX10_knownHere 143 = .ok (.ifCond .eq 8, 3) := by decide +kernel
theorem dX10_knownHere_146 : decode cX10_knownHere 146 = .ok (.bipush 7, 2) := by decide +kernel
theorem dX10_knownHere_148 : decode cX10_knownHere 148 = .ok (.goto 4, 3) := by decide +kernel
theorem dX10_knownHere_151 : decode cX10_knownHere 151 = .ok (.iconst (-1), 1) := by decide +kernel
theorem dX10_knownHere_152 : decode cX10_knownHere 152 = .ok (.ireturn, 1) := by decide +kernel
theorem dX10_one_0 : decode cX10_one 0 = .ok (.aload_n 0, 1) := by decide +kernel
theorem dX10_one_1 : decode cX10_one 1 = .ok (.getfield 111, 3) := by decide +kernel
theorem dX10_one_4 : decode cX10_one 4 = .ok (.ifCond .eq 4, 3) := by decide +kernel
theorem dX10_one_7 : decode cX10_one 7 = .ok (.return_, 1) := by decide +kernel
theorem dX10_one_8 : decode cX10_one 8 = .ok (.aload_n 0, 1) := by decide +kernel
theorem dX10_one_9 : decode cX10_one 9 = .ok (.invokevirtual 117, 3) := by decide +kernel
theorem dX10_one_12 : decode cX10_one 12 = .ok (.aload_n 0, 1) := by decide +kernel
theorem dX10_one_13 : decode cX10_one 13 = .ok (.bipush 12, 2) := by decide +kernel
theorem dX10_one_15 : decode cX10_one 15 = .ok (.iconst 5, 1) := by decide +kernel
theorem dX10_one_16 : decode cX10_one 16 = .ok (.iconst 1, 1) := by decide +kernel
theorem dX10_one_17 : decode cX10_one 17 = .ok (.bipush 19, 2) := by decide +kernel
theorem dX10_one_19 : decode cX10_one 19 = .ok (.bipush 20, 2) := by decide +kernel
theorem dX10_one_21 : decode cX10_one 21 = .ok (.iconst 0, 1) := by decide +kernel
theorem dX10_one_22 : decode cX10_one 22 = .ok (.invokevirtual 144, 3) := by decide +kernel
theorem dX10_one_25 : decode cX10_one 25 = .ok (.ifCond .eq 8, 3) := by decide +kernel
theorem dX10_one_28 : decode cX10_one 28 = .ok (.bipush 7, 2) := by decide +kernel
theorem dX10_one_30 : decode cX10_one 30 = .ok (.goto 26, 3) := by decide +kernel
theorem dX10_one_33 : decode cX10_one 33 = .ok (.aload_n 0, 1) := by decide +kernel
theorem dX10_one_34 : decode cX10_one 34 = .ok (.bipush 13, 2) := by decide +kernel
theorem dX10_one_36 : decode cX10_one 36 = .ok (.bipush 15, 2) := by decide +kernel
theorem dX10_one_38 : decode cX10_one 38 = .ok (.bipush 19, 2) := by decide +kernel
theorem dX10_one_40 : decode cX10_one 40 = .ok (.bipush 20, 2) := by decide +kernel
theorem dX10_one_42 : decode cX10_one 42 = .ok (.iconst 0, 1) := by decide +kernel
theorem dX10_one_43 : decode cX10_one 43 = .ok (.iconst 0, 1) := by decide +kernel
theorem dX10_one_44 : decode cX10_one 44 = .ok (.invokevirtual 144, 3) := by decide +kernel
theorem dX10_one_47 : decode cX10_one 47 = .ok (.ifCond .eq 8, 3) := by decide +kernel
theorem dX10_one_50 : decode cX10_one 50 = .ok (.bipush 8, 2) := by decide +kernel
theorem dX10_one_52 : decode cX10_one 52 = .ok (.goto 4, 3) := by decide +kernel
theorem dX10_one_55 : decode cX10_one 55 = .ok (.iconst (-1), 1) := by decide +kernel
theorem dX10_one_56 : decode cX10_one 56 = .ok (.istore_n 1, 1) := by decide +kernel
theorem dX10_one_57 : decode cX10_one 57 = .ok (.iload_n 1, 1) := by decide +kernel
theorem dX10_one_58 : decode cX10_one 58 = .ok (.iconst (-1), 1) := by decide +kernel
theorem dX10_one_59 : decode cX10_one 59 = .ok (.if_icmp .eq 58, 3) := by decide +kernel
theorem dX10_one_62 : decode cX10_one 62 = .ok (.aload_n 0, 1) := by decide +kernel
theorem dX10_one_63 : decode cX10_one 63 = .ok (.invokevirtual 225, 3) := by decide +kernel
theorem dX10_one_66 : decode cX10_one 66 = .ok (.ifCond .ne 4, 3) := by decide +kernel
theorem dX10_one_69 : decode cX10_one 69 = .ok (.return_, 1) := by decide +kernel
theorem dX10_one_70 : decode cX10_one 70 = .ok (.aload_n 0, 1) := by decide +kernel
theorem dX10_one_71 : decode cX10_one 71 = .ok (.invokevirtual 148, 3) := by decide +kernel
theorem dX10_one_74 : decode cX10_one 74 = .ok (.aload_n 0, 1) := by decide +kernel
theorem dX10_one_75 : decode cX10_one 75 = .ok (.bipush 91, 2) := by decide +kernel
theorem dX10_one_77 : decode cX10_one 77 = .ok (.invokevirtual 167, 3) := by decide +kernel
theorem dX10_one_80 : decode cX10_one 80 = .ok (.aload_n 0, 1) := by decide +kernel
theorem dX10_one_81 : decode cX10_one 81 = .ok (.invokevirtual 229, 3) := by decide +kernel
theorem dX10_one_84 : decode cX10_one 84 = .ok (.aload_n 0, 1) := by decide +kernel
theorem dX10_one_85 : decode cX10_one 85 = .ok (.bipush 44, 2) := by decide +kernel
theorem dX10_one_87 : decode cX10_one 87 = .ok (.invokevirtual 167, 3) := by decide +kernel
theorem dX10_one_90 : decode cX10_one 90 = .ok (.aload_n 0, 1) := by decide +kernel
theorem dX10_one_91 : decode cX10_one 91 = .ok (.invokevirtual 229, 3) := by decide +kernel
theorem dX10_one_94 : decode cX10_one 94 = .ok (.aload_n 0, 1) := by decide +kernel
theorem dX10_one_95 : decode cX10_one 95 = .ok (.bipush 93, 2) := by decide +kernel
theorem dX10_one_97 : decode cX10_one 97 = .ok (.invokevirtual 167, 3) := by decide +kernel
theorem dX10_one_100 : decode cX10_one 100 = .ok (.aload_n 0, 1) := by decide +kernel
theorem dX10_one_101 : decode cX10_one 101 = .ok (.iload_n 1, 1) := by decide +kernel
theorem dX10_one_102 : decode cX10_one 102 = .ok (.iconst 0, 1) := by decide +kernel
theorem dX10_one_103 : decode cX10_one 103 = .ok (.invokevirtual 216, 3) := by decide +kernel
theorem dX10_one_106 : decode cX10_one 106 = .ok (.aload_n 0, 1) := by decide +kernel
theorem dX10_one_107 : decode cX10_one 107 = .ok (.dup, 1) := by decide +kernel
theorem dX10_one_108 : decode cX10_one 108 = .ok (.getfield 154, 3) := by decide +kernel
theorem dX10_one_111 : decode cX10_one 111 = .ok (.iconst 1, 1) := by decide +kernel
theorem dX10_one_112 : decode cX10_one 112 = .ok (.isub, 1) := by decide +kernel
theorem dX10_one_113 : decode cX10_one 113 = .ok (.putfield 154, 3) := by decide +kernel
theorem dX10_one_116 : decode cX10_one 116 = .ok (.return_, 1) := by decide +kernel
theorem dX10_one_117 : decode cX10_one 117 = .ok (.aload_n 0, 1) := by decide +kernel
theorem dX10_one_118 : decode cX10_one 118 = .ok (.aload_n 0, 1) := by decide +kernel
theorem dX10_one_119 : decode cX10_one 119 = .ok (.getfield 104, 3) := by decide +kernel
theorem dX10_one_122 : decode cX10_one 122 = .ok (.invokevirtual 107, 3) := by decide +kernel
theorem dX10_one_125 : decode cX10_one 125 = .ok (.bipush 40, 2) := by decide +kernel
theorem dX10_one_127 : decode cX10_one 127 = .ok (.if_icmp .ne 42, 3) := by decide +kernel
theorem dX10_one_130 : decode cX10_one 130 = .ok (.aload_n 0, 1) := by decide +kernel
theorem dX10_one_131 : decode cX10_one 131 = .ok (.invokevirtual 225, 3) := by decide +kernel
theorem dX10_one_134 : decode cX10_one 134 = .ok (.ifCond .ne 4, 3) := by decide +kernel
theorem dX10_one_137 : decode cX10_one 137 = .ok (.return_, 1) := by decide +kernel
theorem dX10_one_138 : decode cX10_one 138 = .ok (.aload_n 0, 1) := by decide +kernel
theorem dX10_one_139 : decode cX10_one 139 = .ok (.dup, 1) := by decide +kernel
theorem dX10_one_140 : decode cX10_one 140 = .ok (.getfield 104, 3) := by decide +kernel
theorem dX10_one_143 : decode cX10_one 143 = .ok (.iconst 1, 1) := by decide +kernel
theorem dX10_one_144 : decode cX10_one 144 = .ok (.iadd, 1) := by decide +kernel
theorem dX10_one_145 : decode cX10_one 145 = .ok (.putfield 104, 3) := by decide +kernel
theorem dX10_one_148 : decode cX10_one 148 = .ok (.aload_n 0, 1) := by decide +kernel
theorem dX10_one_149 : decode cX10_one 149 = .ok (.invokevirtual 229, 3) := by decide +kernel
theorem dX10_one_152 : decode cX10_one 152 = .ok (.aload_n 0, 1) := by decide +kernel
theorem dX10_one_153 : decode cX10_one 153 = .ok (.bipush 41, 2) := by decide +kernel
theorem dX10_one_155 : decode cX10_one 155 = .ok (.invokevirtual 167, 3) := by decide +kernel
theorem dX10_one_158 : decode cX10_one 158 = .ok (.aload_n 0, 1) := by decide +kernel
theorem dX10_one_159 : decode cX10_one 159 = .ok (.dup, 1) := by decide +kernel
theorem dX10_one_160 : decode cX10_one 160 = .ok (.getfield 154, 3) := by decide +kernel
theorem dX10_one_163 : decode cX10_one 163 = .ok (.iconst 1, 1) := by decide +kernel
theorem dX10_one_164 : decode cX10_one 164 = .ok (.isub, 1) := by decide +kernel
theorem dX10_one_165 : decode cX10_one 165 = .ok (.putfield 154, 3) := by decide +kernel
theorem dX10_one_168 : decode cX10_one 168 = .ok (.return_, 1) := by decide +kernel
theorem dX10_one_169 : decode cX10_one 169 = .ok (.aload_n 0, 1) := by decide +kernel
theorem dX10_one_170 : decode cX10_one 170 = .ok (.invokevirtual 232, 3) := by decide +kernel
theorem dX10_one_173 : decode cX10_one 173 = .ok (.istore_n 2, 1) := by decide +kernel
theorem dX10_one_174 : decode cX10_one 174 = .ok (.iload_n 2, 1) := by decide +kernel
theorem dX10_one_175 : decode cX10_one 175 = .ok (.iconst (-1), 1) := by decide +kernel
theorem dX10_one_176 : decode cX10_one 176 = .ok (.if_icmp .eq 12, 3) := by decide +kernel
theorem dX10_one_179 : decode cX10_one 179 = .ok (.aload_n 0, 1) := by decide +kernel
theorem dX10_one_180 : decode cX10_one 180 = .ok (.iconst 1, 1) := by decide +kernel
theorem dX10_one_181 : decode cX10_one 181 = .ok (.iload_n 2, 1) := by decide +kernel
theorem dX10_one_182 : decode cX10_one 182 = .ok (.invokevirtual 216, 3) := by decide +kernel
theorem dX10_one_185 : decode cX10_one 185 = .ok (.goto 16, 3) := by decide +kernel
theorem dX10_one_188 : decode cX10_one 188 = .ok (.aload_n 0, 1) := by decide +kernel
theorem dX10_one_189 : decode cX10_one 189 = .ok (.iconst 0, 1) := by decide +kernel
theorem dX10_one_190 : decode cX10_one 190 = .ok (.aload_n 0, 1) := by decide +kernel
theorem dX10_one_191 : decode cX10_one 191 = .ok (.iconst 0, 1) := by decide +kernel
theorem dX10_one_192 : decode cX10_one 192 = .ok (.sipush 999, 3) := by decide +kernel
theorem dX10_one_195 : decode cX10_one 195 = .ok (.invokevirtual 163, 3) := by decide +kernel
theorem dX10_one_198 : decode cX10_one 198 = .ok (.invokevirtual 216, 3) := by decide +kernel
theorem dX10_one_201 : decode cX10_one 201 = .ok (.return_, 1) := by decide +kernel
theorem dX10_law_0 : decode cX10_law 0 = .ok (.aload_n 0, 1) := by decide +kernel
theorem dX10_law_1 : decode cX10_law 1 = .ok (.iconst 0, 1) := by decide +kernel
theorem dX10_law_2 : decode cX10_law 2 = .ok (.putfield 95, 3) := by decide +kernel
theorem dX10_law_5 : decode cX10_law 5 = .ok (.aload_n 0, 1) := by decide +kernel
theorem dX10_law_6 : decode cX10_law 6 = .ok (.iload_n 1, 1) := by decide +kernel
theorem dX10_law_7 : decode cX10_law 7 = .ok (.iconst 0, 1) := by decide +kernel
theorem dX10_law_8 : decode cX10_law 8 = .ok (.aload_n 0, 1) := by decide +kernel
theorem dX10_law_9 : decode cX10_law 9 = .ok (.getfield 98, 3) := by decide +kernel
theorem dX10_law_12 : decode cX10_law 12 = .ok (.invokestatic 129, 3) := by decide +kernel
theorem dX10_law_15 : decode cX10_law 15 = .ok (.ifCond .eq 10, 3) := by decide +kernel
theorem dX10_law_18 : decode cX10_law 18 = .ok (.iload_n 1, 1) := by decide +kernel
theorem dX10_law_19 : decode cX10_law 19 = .ok (.sipush 150, 3) := by decide +kernel
theorem dX10_law_22 : decode cX10_law 22 = .ok (.if_icmp .le 7, 3) := by decide +kernel
theorem dX10_law_25 : decode cX10_law 25 = .ok (.iconst 1, 1) := by decide +kernel
theorem dX10_law_26 : decode cX10_law 26 = .ok (.goto 4, 3) := by decide +kernel
theorem dX10_law_29 : decode cX10_law 29 = .ok (.iconst 0, 1) := by decide +kernel
theorem dX10_law_30 : decode cX10_law 30 = .ok (.iconst 1, 1) := by decide +kernel
theorem dX10_law_31 : decode cX10_law 31 = .ok (.iconst 1, 1) := by decide +kernel
theorem dX10_law_32 : decode cX10_law 32 = .ok (.invokevirtual 171, 3) := by decide +kernel
theorem dX10_law_35 : decode cX10_law 35 = .ok (.ifCond .eq 5, 3) := by decide +kernel
theorem dX10_law_38 : decode cX10_law 38 = .ok (.iconst 0, 1) := by decide +kernel
theorem dX10_law_39 : decode cX10_law 39 = .ok (.ireturn, 1) := by decide +kernel
theorem dX10_law_40 : decode cX10_law 40 = .ok (.aload_n 0, 1) := by decide +kernel
theorem dX10_law_41 : decode cX10_law 41 = .ok (.iload_n 1, 1) := by decide +kernel
theorem dX10_law_42 : decode cX10_law 42 = .ok (.invokevirtual 175, 3) := by decide +kernel
theorem dX10_law_45 : decode cX10_law 45 = .ok (.aload_n 0, 1) := by decide +kernel
theorem dX10_law_46 : decode cX10_law 46 = .ok (.iconst 0, 1) := by decide +kernel
theorem dX10_law_47 : decode cX10_law 47 = .ok (.putfield 207, 3) := by decide +kernel
theorem dX10_law_50 : decode cX10_law 50 = .ok (.aload_n 0, 1) := by decide +kernel
theorem dX10_law_51 : decode cX10_law 51 = .ok (.invokevirtual 229, 3) := by decide +kernel
theorem dX10_law_54 : decode cX10_law 54 = .ok (.aload_n 0, 1) := by decide +kernel
theorem dX10_law_55 : decode cX10_law 55 = .ok (.invokevirtual 117, 3) := by decide +kernel
theorem dX10_law_58 : decode cX10_law 58 = .ok (.aload_n 0, 1) := by decide +kernel
theorem dX10_law_59 : decode cX10_law 59 = .ok (.getfield 111, 3) := by decide +kernel
theorem dX10_law_62 : decode cX10_law 62 = .ok (.ifCond .ne 23, 3) := by decide +kernel
theorem dX10_law_65 : decode cX10_law 65 = .ok (.aload_n 0, 1) := by decide +kernel
theorem dX10_law_66 : decode cX10_law 66 = .ok (.getfield 104, 3) := by decide +kernel
theorem dX10_law_69 : decode cX10_law 69 = .ok (.aload_n 0, 1) := by decide +kernel
theorem dX10_law_70 : decode cX10_law 70 = .ok (.getfield 101, 3) := by decide +kernel
theorem dX10_law_73 : decode cX10_law 73 = .ok (.if_icmp .ge 12, 3) := by decide +kernel
theorem dX10_law_76 : decode cX10_law 76 = .ok (.aload_n 0, 1) := by decide +kernel
theorem dX10_law_77 : decode cX10_law 77 = .ok (.iconst 1, 1) := by decide +kernel
theorem dX10_law_78 : decode cX10_law 78 = .ok (.aload_n 0, 1) := by decide +kernel
theorem dX10_law_79 : decode cX10_law 79 = .ok (.getfield 104, 3) := by decide +kernel
theorem dX10_law_82 : decode cX10_law 82 = .ok (.invokevirtual 124, 3) := by decide +kernel
theorem dX10_law_85 : decode cX10_law 85 = .ok (.aload_n 0, 1) := by decide +kernel
theorem dX10_law_86 : decode cX10_law 86 = .ok (.getfield 111, 3) := by decide +kernel
theorem dX10_law_89 : decode cX10_law 89 = .ok (.ifCond .eq 8, 3) := by decide +kernel
theorem dX10_law_92 : decode cX10_law 92 = .ok (.aload_n 0, 1) := by decide +kernel
theorem dX10_law_93 : decode cX10_law 93 = .ok (.invokevirtual 181, 3) := by decide +kernel
theorem dX10_law_96 : decode cX10_law 96 = .ok (.ireturn, 1) := by decide +kernel
theorem dX10_law_97 : decode cX10_law 97 = .ok (.aload_n 0, 1) := by decide +kernel
theorem dX10_law_98 : decode cX10_law 98 = .ok (.iconst (-1), 1) := by decide +kernel
theorem dX10_law_99 : decode cX10_law 99 = .ok (.putfield 9, 3) := by decide +kernel
theorem dX10_law_102 : decode cX10_law 102 = .ok (.aload_n 0, 1) := by decide +kernel
theorem dX10_law_103 : decode cX10_law 103 = .ok (.aload_n 0, 1) := by decide +kernel
theorem dX10_law_104 : decode cX10_law 104 = .ok (.getfield 207, 3) := by decide +kernel
theorem dX10_law_107 : decode cX10_law 107 = .ok (.putfield 192, 3) := by decide +kernel
theorem dX10_law_110 : decode cX10_law 110 = .ok (.aload_n 0, 1) := by decide +kernel
theorem dX10_law_111 : decode cX10_law 111 = .ok (.getfield 49, 3) := by decide +kernel
theorem dX10_law_114 : decode cX10_law 114 = .ok (.aload_n 0, 1) := by decide +kernel
theorem dX10_law_115 : decode cX10_law 115 = .ok (.getfield 46, 3) := by decide +kernel
theorem dX10_law_118 : decode cX10_law 118 = .ok (.aload_n 0, 1) := by decide +kernel
theorem dX10_law_119 : decode cX10_law 119 = .ok (.getfield 192, 3) := by decide +kernel
theorem dX10_law_122 : decode cX10_law 122 = .ok (.invokestatic 184, 3) := by decide +kernel
theorem dX10_law_125 : decode cX10_law 125 = .ok (.iconst 1, 1) := by decide +kernel
theorem dX10_law_126 : decode cX10_law 126 = .ok (.ireturn, 1) := by decide +kernel
theorem dX10_by_0 : decode cX10_by 0 = .ok (.iload_n 0, 1) := by decide +kernel
theorem dX10_by_1 : decode cX10_by 1 = .ok (.tableswitch 96 2 7 #[39, 43, 47, 51, 73, 90], 39) := by decide +kernel
theorem dX10_by_40 : decode cX10_by 40 = .ok (.iload_n 1, 1) := by decide +kernel
theorem dX10_by_41 : decode cX10_by 41 = .ok (.iload_n 2, 1) := by decide +kernel
theorem dX10_by_42 : decode cX10_by 42 = .ok (.iadd, 1) := by decide +kernel
theorem dX10_by_43 : decode cX10_by 43 = .ok (.ireturn, 1) := by decide +kernel
theorem dX10_by_44 : decode cX10_by 44 = .ok (.iload_n 1, 1) := by decide +kernel
theorem dX10_by_45 : decode cX10_by 45 = .ok (.iload_n 2, 1) := by decide +kernel
theorem dX10_by_46 : decode cX10_by 46 = .ok (.isub, 1) := by decide +kernel
theorem dX10_by_47 : decode cX10_by 47 = .ok (.ireturn, 1) := by decide +kernel
theorem dX10_by_48 : decode cX10_by 48 = .ok (.iload_n 1, 1) := by decide +kernel
theorem dX10_by_49 : decode cX10_by 49 = .ok (.iload_n 2, 1) := by decide +kernel
theorem dX10_by_50 : decode cX10_by 50 = .ok (.imul, 1) := by decide +kernel
theorem dX10_by_51 : decode cX10_by 51 = .ok (.ireturn, 1) := by decide +kernel
theorem dX10_by_52 : decode cX10_by 52 = .ok (.iload_n 2, 1) := by decide +kernel
theorem dX10_by_53 : decode cX10_by 53 = .ok (.ifCond .ne 7, 3) := by decide +kernel
theorem dX10_by_56 : decode cX10_by 56 = .ok (.iconst 0, 1) := by decide +kernel
theorem dX10_by_57 : decode cX10_by 57 = .ok (.goto 16, 3) := by decide +kernel
theorem dX10_by_60 : decode cX10_by 60 = .ok (.iload_n 2, 1) := by decide +kernel
theorem dX10_by_61 : decode cX10_by 61 = .ok (.iconst (-1), 1) := by decide +kernel
theorem dX10_by_62 : decode cX10_by 62 = .ok (.if_icmp .ne 8, 3) := by decide +kernel
theorem dX10_by_65 : decode cX10_by 65 = .ok (.iload_n 1, 1) := by decide +kernel
theorem dX10_by_66 : decode cX10_by 66 = .ok (.ineg, 1) := by decide +kernel
theorem dX10_by_67 : decode cX10_by 67 = .ok (.goto 6, 3) := by decide +kernel
theorem dX10_by_70 : decode cX10_by 70 = .ok (.iload_n 1, 1) := by decide +kernel
theorem dX10_by_71 : decode cX10_by 71 = .ok (.iload_n 2, 1) := by decide +kernel
theorem dX10_by_72 : decode cX10_by 72 = .ok (.idiv, 1) := by decide +kernel
theorem dX10_by_73 : decode cX10_by 73 = .ok (.ireturn, 1) := by decide +kernel
theorem dX10_by_74 : decode cX10_by 74 = .ok (.iload_n 2, 1) := by decide +kernel
theorem dX10_by_75 : decode cX10_by 75 = .ok (.ifCond .eq 8, 3) := by decide +kernel
theorem dX10_by_78 : decode cX10_by 78 = .ok (.iload_n 2, 1) := by decide +kernel
theorem dX10_by_79 : decode cX10_by 79 = .ok (.iconst (-1), 1) := by decide +kernel
theorem dX10_by_80 : decode cX10_by 80 = .ok (.if_icmp .ne 7, 3) := by decide +kernel
theorem dX10_by_83 : decode cX10_by 83 = .ok (.iconst 0, 1) := by decide +kernel
theorem dX10_by_84 : decode cX10_by 84 = .ok (.goto 6, 3) := by decide +kernel
theorem dX10_by_87 : decode cX10_by 87 = .ok (.iload_n 1, 1) := by decide +kernel
theorem dX10_by_88 : decode cX10_by 88 = .ok (.iload_n 2, 1) := by decide +kernel
theorem dX10_by_89 : decode cX10_by 89 = .ok (.irem, 1) := by decide +kernel
theorem dX10_by_90 : decode cX10_by 90 = .ok (.ireturn, 1) := by decide +kernel
theorem dX10_by_91 : decode cX10_by 91 = .ok (.iload_n 1, 1) := by decide +kernel
theorem dX10_by_92 : decode cX10_by 92 = .ok (.iload_n 2, 1) := by decide +kernel
theorem dX10_by_93 : decode cX10_by 93 = .ok (.invokestatic 235, 3) := by decide +kernel
theorem dX10_by_96 : decode cX10_by 96 = .ok (.ireturn, 1) := by decide +kernel
theorem dX10_by_97 : decode cX10_by 97 = .ok (.iload_n 1, 1) := by decide +kernel
theorem dX10_by_98 : decode cX10_by 98 = .ok (.iload_n 2, 1) := by decide +kernel
theorem dX10_by_99 : decode cX10_by 99 = .ok (.invokestatic 238, 3) := by decide +kernel
theorem dX10_by_102 : decode cX10_by 102 = .ok (.ireturn, 1) := by decide +kernel
theorem dX10_byLaw_0 : decode cX10_byLaw 0 = .ok (.iconst 0, 1) := by decide +kernel
theorem dX10_byLaw_1 : decode cX10_byLaw 1 = .ok (.istore_n 1, 1) := by decide +kernel
theorem dX10_byLaw_2 : decode cX10_byLaw 2 = .ok (.aload_n 0, 1) := by decide +kernel
theorem dX10_byLaw_3 : decode cX10_byLaw 3 = .ok (.getfield 58, 3) := by decide +kernel
theorem dX10_byLaw_6 : decode cX10_byLaw 6 = .ok (.iconst 0, 1) := by decide +kernel
theorem dX10_byLaw_7 : decode cX10_byLaw 7 = .ok (.aload_n 0, 1) := by decide +kernel
theorem dX10_byLaw_8 : decode cX10_byLaw 8 = .ok (.getfield 61, 3) := by decide +kernel
theorem dX10_byLaw_11 : decode cX10_byLaw 11 = .ok (.iconst 0, 1) := by decide +kernel
theorem dX10_byLaw_12 : decode cX10_byLaw 12 = .ok (.iaload, 1) := by decide +kernel
theorem dX10_byLaw_13 : decode cX10_byLaw 13 = .ok (.iastore, 1) := by decide +kernel
theorem dX10_byLaw_14 : decode cX10_byLaw 14 = .ok (.iconst 0, 1) := by decide +kernel
theorem dX10_byLaw_15 : decode cX10_byLaw 15 = .ok (.istore_n 2, 1) := by decide +kernel
theorem dX10_byLaw_16 : decode cX10_byLaw 16 = .ok (.iload_n 2, 1) := by decide +kernel
theorem dX10_byLaw_17 : decode cX10_byLaw 17 = .ok (.aload_n 0, 1) := by decide +kernel
theorem dX10_byLaw_18 : decode cX10_byLaw 18 = .ok (.getfield 192, 3) := by decide +kernel
theorem dX10_byLaw_21 : decode cX10_byLaw 21 = .ok (.if_icmp .ge 104, 3) := by decide +kernel
theorem dX10_byLaw_24 : decode cX10_byLaw 24 = .ok (.aload_n 0, 1) := by decide +kernel
theorem dX10_byLaw_25 : decode cX10_byLaw 25 = .ok (.getfield 46, 3) := by decide +kernel
theorem dX10_byLaw_28 : decode cX10_byLaw 28 = .ok (.iload_n 2, 1) := by decide +kernel
theorem dX10_byLaw_29 : decode cX10_byLaw 29 = .ok (.aaload, 1) := by decide +kernel
theorem dX10_byLaw_30 : decode cX10_byLaw 30 = .ok (.iconst 0, 1) := by decide +kernel
theorem dX10_byLaw_31 : decode cX10_byLaw 31 = .ok (.iaload, 1) := by decide +kernel
theorem dX10_byLaw_32 : decode cX10_byLaw 32 = .ok (.iconst 2, 1) := by decide +kernel
theorem dX10_byLaw_33 : decode cX10_byLaw 33 = .ok (.if_icmp .ge 50, 3) := by decide +kernel
theorem dX10_byLaw_36 : decode cX10_byLaw 36 = .ok (.aload_n 0, 1) := by decide +kernel
theorem dX10_byLaw_37 : decode cX10_byLaw 37 = .ok (.getfield 58, 3) := by decide +kernel
theorem dX10_byLaw_40 : decode cX10_byLaw 40 = .ok (.iload_n 1, 1) := by decide +kernel
theorem dX10_byLaw_41 : decode cX10_byLaw 41 = .ok (.aload_n 0, 1) := by decide +kernel
theorem dX10_byLaw_42 : decode cX10_byLaw 42 = .ok (.getfield 46, 3) := by decide +kernel
theorem dX10_byLaw_45 : decode cX10_byLaw 45 = .ok (.iload_n 2, 1) := by decide +kernel
theorem dX10_byLaw_46 : decode cX10_byLaw 46 = .ok (.aaload, 1) := by decide +kernel
theorem dX10_byLaw_47 : decode cX10_byLaw 47 = .ok (.iconst 0, 1) := by decide +kernel
theorem dX10_byLaw_48 : decode cX10_byLaw 48 = .ok (.iaload, 1) := by decide +kernel
theorem dX10_byLaw_49 : decode cX10_byLaw 49 = .ok (.ifCond .ne 14, 3) := by decide +kernel
theorem dX10_byLaw_52 : decode cX10_byLaw 52 = .ok (.aload_n 0, 1) := by decide +kernel
theorem dX10_byLaw_53 : decode cX10_byLaw 53 = .ok (.getfield 46, 3) := by decide +kernel
theorem dX10_byLaw_56 : decode cX10_byLaw 56 = .ok (.iload_n 2, 1) := by decide +kernel
theorem dX10_byLaw_57 : decode cX10_byLaw 57 = .ok (.aaload, 1) := by decide +kernel
theorem dX10_byLaw_58 : decode cX10_byLaw 58 = .ok (.iconst 1, 1) := by decide +kernel
theorem dX10_byLaw_59 : decode cX10_byLaw 59 = .ok (.iaload, 1) := by decide +kernel
theorem dX10_byLaw_60 : decode cX10_byLaw 60 = .ok (.goto 16, 3) := by decide +kernel
theorem dX10_byLaw_63 : decode cX10_byLaw 63 = .ok (.aload_n 0, 1) := by decide +kernel
theorem dX10_byLaw_64 : decode cX10_byLaw 64 = .ok (.getfield 61, 3) := by decide +kernel
theorem dX10_byLaw_67 : decode cX10_byLaw 67 = .ok (.aload_n 0, 1) := by decide +kernel
theorem dX10_byLaw_68 : decode cX10_byLaw 68 = .ok (.getfield 46, 3) := by decide +kernel
theorem dX10_byLaw_71 : decode cX10_byLaw 71 = .ok (.iload_n 2, 1) := by decide +kernel
theorem dX10_byLaw_72 : decode cX10_byLaw 72 = .ok (.aaload, 1) := by decide +kernel
theorem dX10_byLaw_73 : decode cX10_byLaw 73 = .ok (.iconst 1, 1) := by decide +kernel
theorem dX10_byLaw_74 : decode cX10_byLaw 74 = .ok (.iaload, 1) := by decide +kernel
theorem dX10_byLaw_75 : decode cX10_byLaw 75 = .ok (.iaload, 1) := by decide +kernel
theorem dX10_byLaw_76 : decode cX10_byLaw 76 = .ok (.iastore, 1) := by decide +kernel
theorem dX10_byLaw_77 : decode cX10_byLaw 77 = .ok (.iinc 1 1, 3) := by decide +kernel
theorem dX10_byLaw_80 : decode cX10_byLaw 80 = .ok (.goto 39, 3) := by decide +kernel
theorem dX10_byLaw_83 : decode cX10_byLaw 83 = .ok (.iinc 1 (-1), 3) := by decide +kernel
theorem dX10_byLaw_86 : decode cX10_byLaw 86 = .ok (.aload_n 0, 1) := by decide +kernel
theorem dX10_byLaw_87 : decode cX10_byLaw 87 = .ok (.getfield 58, 3) := by decide +kernel
theorem dX10_byLaw_90 : decode cX10_byLaw 90 = .ok (.iload_n 1, 1) := by decide +kernel
theorem dX10_byLaw_91 : decode cX10_byLaw 91 = .ok (.iconst 1, 1) := by decide +kernel
theorem dX10_byLaw_92 : decode cX10_byLaw 92 = .ok (.isub, 1) := by decide +kernel
theorem dX10_byLaw_93 : decode cX10_byLaw 93 = .ok (.aload_n 0, 1) := by decide +kernel
theorem dX10_byLaw_94 : decode cX10_byLaw 94 = .ok (.getfield 46, 3) := by decide +kernel
theorem dX10_byLaw_97 : decode cX10_byLaw 97 = .ok (.iload_n 2, 1) := by decide +kernel
theorem dX10_byLaw_98 : decode cX10_byLaw 98 = .ok (.aaload, 1) := by decide +kernel
theorem dX10_byLaw_99 : decode cX10_byLaw 99 = .ok (.iconst 0, 1) := by decide +kernel
theorem dX10_byLaw_100 : decode cX10_byLaw 100 = .ok (.iaload, 1) := by decide +kernel
theorem dX10_byLaw_101 : decode cX10_byLaw 101 = .ok (.aload_n 0, 1) := by decide +kernel
theorem dX10_byLaw_102 : decode cX10_byLaw 102 = .ok (.getfield 58, 3) := by decide +kernel
theorem dX10_byLaw_105 : decode cX10_byLaw 105 = .ok (.iload_n 1, 1) := by decide +kernel
theorem dX10_byLaw_106 : decode cX10_byLaw 106 = .ok (.iconst 1, 1) := by decide +kernel
theorem dX10_byLaw_107 : decode cX10_byLaw 107 = .ok (.isub, 1) := by decide +kernel
theorem dX10_byLaw_108 : decode cX10_byLaw 108 = .ok (.iaload, 1) := by decide +kernel
theorem dX10_byLaw_109 : decode cX10_byLaw 109 = .ok (.aload_n 0, 1) := by decide +kernel
theorem dX10_byLaw_110 : decode cX10_byLaw 110 = .ok (.getfield 58, 3) := by decide +kernel
theorem dX10_byLaw_113 : decode cX10_byLaw 113 = .ok (.iload_n 1, 1) := by decide +kernel
theorem dX10_byLaw_114 : decode cX10_byLaw 114 = .ok (.iaload, 1) := by decide +kernel
theorem dX10_byLaw_115 : decode cX10_byLaw 115 = .ok (.invokestatic 241, 3) := by decide +kernel
theorem dX10_byLaw_118 : decode cX10_byLaw 118 = .ok (.iastore, 1) := by decide +kernel
theorem dX10_byLaw_119 : decode cX10_byLaw 119 = .ok (.iinc 2 1, 3) := by decide +kernel
theorem dX10_byLaw_122 : decode cX10_byLaw 122 = .ok (.goto (-106), 3) := by decide +kernel
theorem dX10_byLaw_125 : decode cX10_byLaw 125 = .ok (.bipush 30, 2) := by decide +kernel
theorem dX10_byLaw_127 : decode cX10_byLaw 127 = .ok (.iconst 0, 1) := by decide +kernel
theorem dX10_byLaw_128 : decode cX10_byLaw 128 = .ok (.aload_n 0, 1) := by decide +kernel
theorem dX10_byLaw_129 : decode cX10_byLaw 129 = .ok (.getfield 58, 3) := by decide +kernel
theorem dX10_byLaw_132 : decode cX10_byLaw 132 = .ok (.iconst 0, 1) := by decide +kernel
theorem dX10_byLaw_133 : decode cX10_byLaw 133 = .ok (.iaload, 1) := by decide +kernel
theorem dX10_byLaw_134 : decode cX10_byLaw 134 = .ok (.invokestatic 238, 3) := by decide +kernel
theorem dX10_byLaw_137 : decode cX10_byLaw 137 = .ok (.invokestatic 235, 3) := by decide +kernel
theorem dX10_byLaw_140 : decode cX10_byLaw 140 = .ok (.ireturn, 1) := by decide +kernel
theorem dX10_stepHere_0 : decode cX10_stepHere 0 = .ok (.aload_n 0, 1) := by decide +kernel
theorem dX10_stepHere_1 : decode cX10_stepHere 1 = .ok (.bipush 19, 2) := by decide +kernel
theorem dX10_stepHere_3 : decode cX10_stepHere 3 = .ok (.bipush 9, 2) := by decide +kernel
theorem dX10_stepHere_5 : decode cX10_stepHere 5 = .ok (.bipush 14, 2) := by decide +kernel
theorem dX10_stepHere_7 : decode cX10_stepHere 7 = .ok (.bipush 7, 2) := by decide +kernel
theorem dX10_stepHere_9 : decode cX10_stepHere 9 = .ok (.iconst 0, 1) := by decide +kernel
theorem dX10_stepHere_10 : decode cX10_stepHere 10 = .ok (.iconst 0, 1) := by decide +kernel
theorem dX10_stepHere_11 : decode cX10_stepHere 11 = .ok (.invokevirtual 144, 3) := by decide +kernel
theorem dX10_stepHere_14 : decode cX10_stepHere 14 = .ok (.ifCond .eq 5, 3) := by decide +kernel
theorem dX10_stepHere_17 : decode cX10_stepHere 17 = .ok (.iconst 0, 1) := by decide +kernel
theorem dX10_stepHere_18 : decode cX10_stepHere 18 = .ok (.ireturn, 1) := by decide +kernel
theorem dX10_stepHere_19 : decode cX10_stepHere 19 = .ok (.aload_n 0, 1) := by decide +kernel
theorem dX10_stepHere_20 : decode cX10_stepHere 20 = .ok (.bipush 8, 2) := by decide +kernel
theorem dX10_stepHere_22 : decode cX10_stepHere 22 = .ok (.bipush 25, 2) := by decide +kernel
theorem dX10_stepHere_24 : decode cX10_stepHere 24 = .ok (.bipush 13, 2) := by decide +kernel
theorem dX10_stepHere_26 : decode cX10_stepHere 26 = .ok (.bipush 14, 2) := by decide +kernel
theorem dX10_stepHere_28 : decode cX10_stepHere 28 = .ok (.iconst 0, 1) := by decide +kernel
theorem dX10_stepHere_29 : decode cX10_stepHere 29 = .ok (.iconst 0, 1) := by decide +kernel
theorem dX10_stepHere_30 : decode cX10_stepHere 30 = .ok (.invokevirtual 144, 3) := by decide +kernel
theorem dX10_stepHere_33 : decode cX10_stepHere 33 = .ok (.ifCond .eq 5, 3) := by decide +kernel
theorem dX10_stepHere_36 : decode cX10_stepHere 36 = .ok (.iconst 1, 1) := by decide +kernel
theorem dX10_stepHere_37 : decode cX10_stepHere 37 = .ok (.ireturn, 1) := by decide +kernel
theorem dX10_stepHere_38 : decode cX10_stepHere 38 = .ok (.aload_n 0, 1) := by decide +kernel
theorem dX10_stepHere_39 : decode cX10_stepHere 39 = .ok (.bipush 18, 2) := by decide +kernel
theorem dX10_stepHere_41 : decode cX10_stepHere 41 = .ok (.iconst 5, 1) := by decide +kernel
theorem dX10_stepHere_42 : decode cX10_stepHere 42 = .ok (.bipush 19, 2) := by decide +kernel
theorem dX10_stepHere_44 : decode cX10_stepHere 44 = .ok (.bipush 20, 2) := by decide +kernel
theorem dX10_stepHere_46 : decode cX10_stepHere 46 = .ok (.iconst 0, 1) := by decide +kernel
theorem dX10_stepHere_47 : decode cX10_stepHere 47 = .ok (.iconst 0, 1) := by decide +kernel
theorem dX10_stepHere_48 : decode cX10_stepHere 48 = .ok (.invokevirtual 144, 3) := by decide +kernel
theorem dX10_stepHere_51 : decode cX10_stepHere 51 = .ok (.ifCond .eq 5, 3) := by decide +kernel
theorem dX10_stepHere_54 : decode cX10_stepHere 54 = .ok (.iconst 2, 1) := by decide +kernel
theorem dX10_stepHere_55 : decode cX10_stepHere 55 = .ok (.ireturn, 1) := by decide +kernel
theorem dX10_stepHere_56 : decode cX10_stepHere 56 = .ok (.aload_n 0, 1) := by decide +kernel
theorem dX10_stepHere_57 : decode cX10_stepHere 57 = .ok (.bipush 8, 2) := by decide +kernel
theorem dX10_stepHere_59 : decode cX10_stepHere 59 = .ok (.bipush 15, 2) := by decide +kernel
theorem dX10_stepHere_61 : decode cX10_stepHere 61 = .ok (.iconst 1, 1) := by decide +kernel
theorem dX10_stepHere_62 : decode cX10_stepHere 62 = .ok (.bipush 18, 2) := by decide +kernel
theorem dX10_stepHere_64 : decode cX10_stepHere 64 = .ok (.bipush 19, 2) := by decide +kernel
theorem dX10_stepHere_66 : decode cX10_stepHere 66 = .ok (.iconst 5, 1) := by decide +kernel
theorem dX10_stepHere_67 : decode cX10_stepHere 67 = .ok (.invokevirtual 144, 3) := by decide +kernel
theorem dX10_stepHere_70 : decode cX10_stepHere 70 = .ok (.ifCond .eq 5, 3) := by decide +kernel
theorem dX10_stepHere_73 : decode cX10_stepHere 73 = .ok (.iconst 3, 1) := by decide +kernel
theorem dX10_stepHere_74 : decode cX10_stepHere 74 = .ok (.ireturn, 1) := by decide +kernel
theorem dX10_stepHere_75 : decode cX10_stepHere 75 = .ok (.aload_n 0, 1) := by decide +kernel
theorem dX10_stepHere_76 : decode cX10_stepHere 76 = .ok (.iconst 3, 1) := by decide +kernel
theorem dX10_stepHere_77 : decode cX10_stepHere 77 = .ok (.bipush 21, 2) := by decide +kernel
theorem dX10_stepHere_79 : decode cX10_stepHere 79 = .ok (.bipush 18, 2) := by decide +kernel
theorem dX10_stepHere_81 : decode cX10_stepHere 81 = .ok (.iconst 5, 1) := by decide +kernel
theorem dX10_stepHere_82 : decode cX10_stepHere 82 = .ok (.iconst 0, 1) := by decide +kernel
theorem dX10_stepHere_83 : decode cX10_stepHere 83 = .ok (.iconst 0, 1) := by decide +kernel
theorem dX10_stepHere_84 : decode cX10_stepHere 84 = .ok (.invokevirtual 144, 3) := by decide +kernel
theorem dX10_stepHere_87 : decode cX10_stepHere 87 = .ok (.ifCond .eq 5, 3) := by decide +kernel
theorem dX10_stepHere_90 : decode cX10_stepHere 90 = .ok (.iconst 4, 1) := by decide +kernel
theorem dX10_stepHere_91 : decode cX10_stepHere 91 = .ok (.ireturn, 1) := by decide +kernel
theorem dX10_stepHere_92 : decode cX10_stepHere 92 = .ok (.aload_n 0, 1) := by decide +kernel
theorem dX10_stepHere_93 : decode cX10_stepHere 93 = .ok (.bipush 23, 2) := by decide +kernel
theorem dX10_stepHere_95 : decode cX10_stepHere 95 = .ok (.bipush 15, 2) := by decide +kernel
theorem dX10_stepHere_97 : decode cX10_stepHere 97 = .ok (.bipush 18, 2) := by decide +kernel
theorem dX10_stepHere_99 : decode cX10_stepHere 99 = .ok (.iconst 4, 1) := by decide +kernel
theorem dX10_stepHere_100 : decode cX10_stepHere 100 = .ok (.iconst 0, 1) := by decide +kernel
theorem dX10_stepHere_101 : decode cX10_stepHere 101 = .ok (.iconst 0, 1) := by decide +kernel
theorem dX10_stepHere_102 : decode cX10_stepHere 102 = .ok (.invokevirtual 144, 3) := by decide +kernel
theorem dX10_stepHere_105 : decode cX10_stepHere 105 = .ok (.ifCond .eq 5, 3) := by decide +kernel
theorem dX10_stepHere_108 : decode cX10_stepHere 108 = .ok (.iconst 5, 1) := by decide +kernel
theorem dX10_stepHere_109 : decode cX10_stepHere 109 = .ok (.ireturn, 1) := by decide +kernel
theorem dX10_stepHere_110 : decode cX10_stepHere 110 = .ok (.aload_n 0, 1) := by decide +kernel
theorem dX10_stepHere_111 : decode cX10_stepHere 111 = .ok (.iconst 4, 1) := by decide +kernel
theorem dX10_stepHere_112 : decode cX10_stepHere 112 = .ok (.iconst 1, 1) := by decide +kernel
theorem dX10_stepHere_113 : decode cX10_stepHere 113 = .ok (.bipush 25, 2) := by decide +kernel
theorem dX10_stepHere_115 : decode cX10_stepHere 115 = .ok (.iconst 0, 1) := by decide +kernel
theorem dX10_stepHere_116 : decode cX10_stepHere 116 = .ok (.iconst 0, 1) := by decide +kernel
theorem dX10_stepHere_117 : decode cX10_stepHere 117 = .ok (.iconst 0, 1) := by decide +kernel
theorem dX10_stepHere_118 : decode cX10_stepHere 118 = .ok (.invokevirtual 144, 3) := by decide +kernel
theorem dX10_stepHere_121 : decode cX10_stepHere 121 = .ok (.ifCond .eq 6, 3) := by decide +kernel
theorem dX10_stepHere_124 : decode cX10_stepHere 124 = .ok (.bipush 6, 2) := by decide +kernel
theorem dX10_stepHere_126 : decode cX10_stepHere 126 = .ok (.ireturn, 1) := by decide +kernel
theorem dX10_stepHere_127 : decode cX10_stepHere 127 = .ok (.aload_n 0, 1) := by decide +kernel
theorem dX10_stepHere_128 : decode cX10_stepHere 128 = .ok (.iconst 1, 1) := by decide +kernel
theorem dX10_stepHere_129 : decode cX10_stepHere 129 = .ok (.bipush 7, 2) := by decide +kernel
theorem dX10_stepHere_131 : decode cX10_stepHere 131 = .ok (.iconst 1, 1) := by decide +kernel
theorem dX10_stepHere_132 : decode cX10_stepHere 132 = .ok (.bipush 9, 2) := by decide +kernel
theorem dX10_stepHere_134 : decode cX10_stepHere 134 = .ok (.bipush 14, 2) := by decide +kernel
theorem dX10_stepHere_136 : decode cX10_stepHere 136 = .ok (.iconst 0, 1) := by decide +kernel
theorem dX10_stepHere_137 : decode cX10_stepHere 137 = .ok (.invokevirtual 144, 3) := by decide +kernel
theorem dX10_stepHere_140 : decode cX10_stepHere 140 = .ok (.ifCond .eq 8, 3) := by decide +kernel
theorem dX10_stepHere_143 : decode cX10_stepHere 143 = .ok (.bipush 7, 2) := by decide +kernel
theorem dX10_stepHere_145 : decode cX10_stepHere 145 = .ok (.goto 4, 3) := by decide +kernel
theorem dX10_stepHere_148 : decode cX10_stepHere 148 = .ok (.iconst (-1), 1) := by decide +kernel
theorem dX10_stepHere_149 : decode cX10_stepHere 149 = .ok (.ireturn, 1) := by decide +kernel
theorem dX10_readsStep_0 : decode cX10_readsStep 0 = .ok (.aload_n 0, 1) := by decide +kernel
theorem dX10_readsStep_1 : decode cX10_readsStep 1 = .ok (.invokevirtual 245, 3) := by decide +kernel
theorem dX10_readsStep_4 : decode cX10_readsStep 4 = .ok (.istore_n 1, 1) := by decide +kernel
theorem dX10_readsStep_5 : decode cX10_readsStep 5 = .ok (.iload_n 1, 1) := by decide +kernel
theorem dX10_readsStep_6 : decode cX10_readsStep 6 = .ok (.iconst (-1), 1) := by decide +kernel
theorem dX10_readsStep_7 : decode cX10_readsStep 7 = .ok (.if_icmp .ne 12, 3) := by decide +kernel
theorem dX10_readsStep_10 : decode cX10_readsStep 10 = .ok (.aload_n 0, 1) := by decide +kernel
theorem dX10_readsStep_11 : decode cX10_readsStep 11 = .ok (.iconst 1, 1) := by decide +kernel
theorem dX10_readsStep_12 : decode cX10_readsStep 12 = .ok (.aload_n 0, 1) := by decide +kernel
theorem dX10_readsStep_13 : decode cX10_readsStep 13 = .ok (.getfield 104, 3) := by decide +kernel
theorem dX10_readsStep_16 : decode cX10_readsStep 16 = .ok (.invokevirtual 124, 3) := by decide +kernel
theorem dX10_readsStep_19 : decode cX10_readsStep 19 = .ok (.iload_n 1, 1) := by decide +kernel
theorem dX10_readsStep_20 : decode cX10_readsStep 20 = .ok (.bipush 7, 2) := by decide +kernel
theorem dX10_readsStep_22 : decode cX10_readsStep 22 = .ok (.if_icmp .ne 11, 3) := by decide +kernel
theorem dX10_readsStep_25 : decode cX10_readsStep 25 = .ok (.aload_n 0, 1) := by decide +kernel
theorem dX10_readsStep_26 : decode cX10_readsStep 26 = .ok (.invokevirtual 225, 3) := by decide +kernel
theorem dX10_readsStep_29 : decode cX10_readsStep 29 = .ok (.ifCond .ne 4, 3) := by decide +kernel
theorem dX10_readsStep_32 : decode cX10_readsStep 32 = .ok (.return_, 1) := by decide +kernel
theorem dX10_readsStep_33 : decode cX10_readsStep 33 = .ok (.aload_n 0, 1) := by decide +kernel
theorem dX10_readsStep_34 : decode cX10_readsStep 34 = .ok (.getfield 111, 3) := by decide +kernel
theorem dX10_readsStep_37 : decode cX10_readsStep 37 = .ok (.ifCond .eq 4, 3) := by decide +kernel
theorem dX10_readsStep_40 : decode cX10_readsStep 40 = .ok (.return_, 1) := by decide +kernel
theorem dX10_readsStep_41 : decode cX10_readsStep 41 = .ok (.aload_n 0, 1) := by decide +kernel
theorem dX10_readsStep_42 : decode cX10_readsStep 42 = .ok (.invokevirtual 148, 3) := by decide +kernel
theorem dX10_readsStep_45 : decode cX10_readsStep 45 = .ok (.aload_n 0, 1) := by decide +kernel
theorem dX10_readsStep_46 : decode cX10_readsStep 46 = .ok (.getfield 64, 3) := by decide +kernel
theorem dX10_readsStep_49 : decode cX10_readsStep 49 = .ok (.aload_n 0, 1) := by decide +kernel
theorem dX10_readsStep_50 : decode cX10_readsStep 50 = .ok (.getfield 248, 3) := by decide +kernel
theorem dX10_readsStep_53 : decode cX10_readsStep 53 = .ok (.aaload, 1) := by decide +kernel
theorem dX10_readsStep_54 : decode cX10_readsStep 54 = .ok (.astore_n 2, 1) := by decide +kernel
theorem dX10_readsStep_55 : decode cX10_readsStep 55 = .ok (.aload_n 0, 1) := by decide +kernel
theorem dX10_readsStep_56 : decode cX10_readsStep 56 = .ok (.dup, 1) := by decide +kernel
theorem dX10_readsStep_57 : decode cX10_readsStep 57 = .ok (.getfield 248, 3) := by decide +kernel
theorem dX10_readsStep_60 : decode cX10_readsStep 60 = .ok (.iconst 1, 1) := by decide +kernel
theorem dX10_readsStep_61 : decode cX10_readsStep 61 = .ok (.iadd, 1) := by decide +kernel
theorem dX10_readsStep_62 : decode cX10_readsStep 62 = .ok (.putfield 248, 3) := by decide +kernel
theorem dX10_readsStep_65 : decode cX10_readsStep 65 = .ok (.aload_n 2, 1) := by decide +kernel
theorem dX10_readsStep_66 : decode cX10_readsStep 66 = .ok (.iconst 0, 1) := by decide +kernel
theorem dX10_readsStep_67 : decode cX10_readsStep 67 = .ok (.iload_n 1, 1) := by decide +kernel
theorem dX10_readsStep_68 : decode cX10_readsStep 68 = .ok (.iastore, 1) := by decide +kernel
theorem dX10_readsStep_69 : decode cX10_readsStep 69 = .ok (.iload_n 1, 1) := by decide +kernel
theorem dX10_readsStep_70 : decode cX10_readsStep 70 = .ok (.ifCond .eq 8, 3) := by decide +kernel
theorem dX10_readsStep_73 : decode cX10_readsStep 73 = .ok (.iload_n 1, 1) := by decide +kernel
theorem dX10_readsStep_74 : decode cX10_readsStep 74 = .ok (.iconst 5, 1) := by decide +kernel
theorem dX10_readsStep_75 : decode cX10_readsStep 75 = .ok (.if_icmp .ne 19, 3) := by decide +kernel
theorem dX10_readsStep_78 : decode cX10_readsStep 78 = .ok (.aload_n 2, 1) := by decide +kernel
theorem dX10_readsStep_79 : decode cX10_readsStep 79 = .ok (.iconst 1, 1) := by decide +kernel
theorem dX10_readsStep_80 : decode cX10_readsStep 80 = .ok (.aload_n 0, 1) := by decide +kernel
theorem dX10_readsStep_81 : decode cX10_readsStep 81 = .ok (.iconst 0, 1) := by decide +kernel
theorem dX10_readsStep_82 : decode cX10_readsStep 82 = .ok (.aload_n 0, 1) := by decide +kernel
theorem dX10_readsStep_83 : decode cX10_readsStep 83 = .ok (.getfield 23, 3) := by decide +kernel
theorem dX10_readsStep_86 : decode cX10_readsStep 86 = .ok (.iconst 1, 1) := by decide +kernel
theorem dX10_readsStep_87 : decode cX10_readsStep 87 = .ok (.iaload, 1) := by decide +kernel
theorem dX10_readsStep_88 : decode cX10_readsStep 88 = .ok (.iconst 1, 1) := by decide +kernel
theorem dX10_readsStep_89 : decode cX10_readsStep 89 = .ok (.isub, 1) := by decide +kernel
theorem dX10_readsStep_90 : decode cX10_readsStep 90 = .ok (.invokevirtual 163, 3) := by decide +kernel
theorem dX10_readsStep_93 : decode cX10_readsStep 93 = .ok (.iastore, 1) := by decide +kernel
theorem dX10_readsStep_94 : decode cX10_readsStep 94 = .ok (.iload_n 1, 1) := by decide +kernel
theorem dX10_readsStep_95 : decode cX10_readsStep 95 = .ok (.iconst 3, 1) := by decide +kernel
theorem dX10_readsStep_96 : decode cX10_readsStep 96 = .ok (.if_icmp .eq 8, 3) := by decide +kernel
theorem dX10_readsStep_99 : decode cX10_readsStep 99 = .ok (.iload_n 1, 1) := by decide +kernel
theorem dX10_readsStep_100 : decode cX10_readsStep 100 = .ok (.iconst 4, 1) := by decide +kernel
theorem dX10_readsStep_101 : decode cX10_readsStep 101 = .ok (.if_icmp .ne 19, 3) := by decide +kernel
theorem dX10_readsStep_104 : decode cX10_readsStep 104 = .ok (.aload_n 2, 1) := by decide +kernel
theorem dX10_readsStep_105 : decode cX10_readsStep 105 = .ok (.iconst 1, 1) := by decide +kernel
theorem dX10_readsStep_106 : decode cX10_readsStep 106 = .ok (.aload_n 0, 1) := by decide +kernel
theorem dX10_readsStep_107 : decode cX10_readsStep 107 = .ok (.iconst 0, 1) := by decide +kernel
theorem dX10_readsStep_108 : decode cX10_readsStep 108 = .ok (.aload_n 0, 1) := by decide +kernel
theorem dX10_readsStep_109 : decode cX10_readsStep 109 = .ok (.getfield 23, 3) := by decide +kernel
theorem dX10_readsStep_112 : decode cX10_readsStep 112 = .ok (.iconst 0, 1) := by decide +kernel
theorem dX10_readsStep_113 : decode cX10_readsStep 113 = .ok (.iaload, 1) := by decide +kernel
theorem dX10_readsStep_114 : decode cX10_readsStep 114 = .ok (.iconst 1, 1) := by decide +kernel
theorem dX10_readsStep_115 : decode cX10_readsStep 115 = .ok (.isub, 1) := by decide +kernel
theorem dX10_readsStep_116 : decode cX10_readsStep 116 = .ok (.invokevirtual 163, 3) := by decide +kernel
theorem dX10_readsStep_119 : decode cX10_readsStep 119 = .ok (.iastore, 1) := by decide +kernel
theorem dX10_readsStep_120 : decode cX10_readsStep 120 = .ok (.iload_n 1, 1) := by decide +kernel
theorem dX10_readsStep_121 : decode cX10_readsStep 121 = .ok (.iconst 5, 1) := by decide +kernel
theorem dX10_readsStep_122 : decode cX10_readsStep 122 = .ok (.if_icmp .ne 12, 3) := by decide +kernel
theorem dX10_readsStep_125 : decode cX10_readsStep 125 = .ok (.aload_n 2, 1) := by decide +kernel
theorem dX10_readsStep_126 : decode cX10_readsStep 126 = .ok (.iconst 2, 1) := by decide +kernel
theorem dX10_readsStep_127 : decode cX10_readsStep 127 = .ok (.aload_n 0, 1) := by decide +kernel
theorem dX10_readsStep_128 : decode cX10_readsStep 128 = .ok (.iconst 0, 1) := by decide +kernel
theorem dX10_readsStep_129 : decode cX10_readsStep 129 = .ok (.iconst 5, 1) := by decide +kernel
theorem dX10_readsStep_130 : decode cX10_readsStep 130 = .ok (.invokevirtual 163, 3) := by decide +kernel
theorem dX10_readsStep_133 : decode cX10_readsStep 133 = .ok (.iastore, 1) := by decide +kernel
theorem dX10_readsStep_134 : decode cX10_readsStep 134 = .ok (.iload_n 1, 1) := by decide +kernel
theorem dX10_readsStep_135 : decode cX10_readsStep 135 = .ok (.bipush 7, 2) := by decide +kernel
theorem dX10_readsStep_137 : decode cX10_readsStep 137 = .ok (.if_icmp .ne 70, 3) := by decide +kernel
theorem dX10_readsStep_140 : decode cX10_readsStep 140 = .ok (.aload_n 2, 1) := by decide +kernel
theorem dX10_readsStep_141 : decode cX10_readsStep 141 = .ok (.iconst 1, 1) := by decide +kernel
theorem dX10_readsStep_142 : decode cX10_readsStep 142 = .ok (.aload_n 0, 1) := by decide +kernel
theorem dX10_readsStep_143 : decode cX10_readsStep 143 = .ok (.iconst 0, 1) := by decide +kernel
theorem dX10_readsStep_144 : decode cX10_readsStep 144 = .ok (.bipush 60, 2) := by decide +kernel
theorem dX10_readsStep_146 : decode cX10_readsStep 146 = .ok (.invokevirtual 163, 3) := by decide +kernel
theorem dX10_readsStep_149 : decode cX10_readsStep 149 = .ok (.iastore, 1) := by decide +kernel
theorem dX10_readsStep_150 : decode cX10_readsStep 150 = .ok (.aload_n 0, 1) := by decide +kernel
theorem dX10_readsStep_151 : decode cX10_readsStep 151 = .ok (.bipush 91, 2) := by decide +kernel
theorem dX10_readsStep_153 : decode cX10_readsStep 153 = .ok (.invokevirtual 167, 3) := by decide +kernel
theorem dX10_readsStep_156 : decode cX10_readsStep 156 = .ok (.aload_n 0, 1) := by decide +kernel
theorem dX10_readsStep_157 : decode cX10_readsStep 157 = .ok (.invokevirtual 117, 3) := by decide +kernel
theorem dX10_readsStep_160 : decode cX10_readsStep 160 = .ok (.aload_n 0, 1) := by decide +kernel
theorem dX10_readsStep_161 : decode cX10_readsStep 161 = .ok (.getfield 111, 3) := by decide +kernel
theorem dX10_readsStep_164 : decode cX10_readsStep 164 = .ok (.ifCond .ne 27, 3) := by decide +kernel
theorem dX10_readsStep_167 : decode cX10_readsStep 167 = .ok (.aload_n 0, 1) := by decide +kernel
theorem dX10_readsStep_168 : decode cX10_readsStep 168 = .ok (.aload_n 0, 1) := by decide +kernel
theorem dX10_readsStep_169 : decode cX10_readsStep 169 = .ok (.getfield 104, 3) := by decide +kernel
theorem dX10_readsStep_172 : decode cX10_readsStep 172 = .ok (.invokevirtual 107, 3) := by decide +kernel
theorem dX10_readsStep_175 : decode cX10_readsStep 175 = .ok (.bipush 93, 2) := by decide +kernel
theorem dX10_readsStep_177 : decode cX10_readsStep 177 = .ok (.if_icmp .eq 14, 3) := by decide +kernel
theorem dX10_readsStep_180 : decode cX10_readsStep 180 = .ok (.aload_n 0, 1) := by decide +kernel
theorem dX10_readsStep_181 : decode cX10_readsStep 181 = .ok (.invokevirtual 251, 3) := by decide +kernel
theorem dX10_readsStep_184 : decode cX10_readsStep 184 = .ok (.aload_n 0, 1) := by decide +kernel
theorem dX10_readsStep_185 : decode cX10_readsStep 185 = .ok (.invokevirtual 117, 3) := by decide +kernel
theorem dX10_readsStep_188 : decode cX10_readsStep 188 = .ok (.goto (-28), 3) := by decide +kernel
theorem dX10_readsStep_191 : decode cX10_readsStep 191 = .ok (.aload_n 0, 1) := by decide +kernel
theorem dX10_readsStep_192 : decode cX10_readsStep 192 = .ok (.bipush 93, 2) := by decide +kernel
theorem dX10_readsStep_194 : decode cX10_readsStep 194 = .ok (.invokevirtual 167, 3) := by decide +kernel
theorem dX10_readsStep_197 : decode cX10_readsStep 197 = .ok (.aload_n 0, 1) := by decide +kernel
theorem dX10_readsStep_198 : decode cX10_readsStep 198 = .ok (.dup, 1) := by decide +kernel
theorem dX10_readsStep_199 : decode cX10_readsStep 199 = .ok (.getfield 154, 3) := by decide +kernel
theorem dX10_readsStep_202 : decode cX10_readsStep 202 = .ok (.iconst 1, 1) := by decide +kernel
theorem dX10_readsStep_203 : decode cX10_readsStep 203 = .ok (.isub, 1) := by decide +kernel
theorem dX10_readsStep_204 : decode cX10_readsStep 204 = .ok (.putfield 154, 3) := by decide +kernel
theorem dX10_readsStep_207 : decode cX10_readsStep 207 = .ok (.aload_n 2, 1) := by decide +kernel
theorem dX10_readsStep_208 : decode cX10_readsStep 208 = .ok (.iconst 3, 1) := by decide +kernel
theorem dX10_readsStep_209 : decode cX10_readsStep 209 = .ok (.aload_n 0, 1) := by decide +kernel
theorem dX10_readsStep_210 : decode cX10_readsStep 210 = .ok (.getfield 248, 3) := by decide +kernel
theorem dX10_readsStep_213 : decode cX10_readsStep 213 = .ok (.iastore, 1) := by decide +kernel
theorem dX10_readsStep_214 : decode cX10_readsStep 214 = .ok (.aload_n 0, 1) := by decide +kernel
theorem dX10_readsStep_215 : decode cX10_readsStep 215 = .ok (.bipush 59, 2) := by decide +kernel
theorem dX10_readsStep_217 : decode cX10_readsStep 217 = .ok (.invokevirtual 167, 3) := by decide +kernel
theorem dX10_readsStep_220 : decode cX10_readsStep 220 = .ok (.return_, 1) := by decide +kernel
theorem dX10_book_0 : decode cX10_book 0 = .ok (.aload_n 0, 1) := by decide +kernel
theorem dX10_book_1 : decode cX10_book 1 = .ok (.iconst 0, 1) := by decide +kernel
theorem dX10_book_2 : decode cX10_book 2 = .ok (.putfield 95, 3) := by decide +kernel
theorem dX10_book_5 : decode cX10_book 5 = .ok (.aload_n 0, 1) := by decide +kernel
theorem dX10_book_6 : decode cX10_book 6 = .ok (.iload_n 1, 1) := by decide +kernel
theorem dX10_book_7 : decode cX10_book 7 = .ok (.iconst 0, 1) := by decide +kernel
theorem dX10_book_8 : decode cX10_book 8 = .ok (.aload_n 0, 1) := by decide +kernel
theorem dX10_book_9 : decode cX10_book 9 = .ok (.getfield 98, 3) := by decide +kernel
theorem dX10_book_12 : decode cX10_book 12 = .ok (.invokestatic 129, 3) := by decide +kernel
theorem dX10_book_15 : decode cX10_book 15 = .ok (.ifCond .eq 9, 3) := by decide +kernel
theorem dX10_book_18 : decode cX10_book 18 = .ok (.iload_n 1, 1) := by decide +kernel
theorem dX10_book_19 : decode cX10_book 19 = .ok (.bipush 60, 2) := by decide +kernel
theorem dX10_book_21 : decode cX10_book 21 = .ok (.if_icmp .le 7, 3) := by decide +kernel
theorem dX10_book_24 : decode cX10_book 24 = .ok (.iconst 1, 1) := by decide +kernel
theorem dX10_book_25 : decode cX10_book 25 = .ok (.goto 4, 3) := by decide +kernel
theorem dX10_book_28 : decode cX10_book 28 = .ok (.iconst 0, 1) := by decide +kernel
theorem dX10_book_29 : decode cX10_book 29 = .ok (.iconst 1, 1) := by decide +kernel
theorem dX10_book_30 : decode cX10_book 30 = .ok (.iconst 1, 1) := by decide +kernel
theorem dX10_book_31 : decode cX10_book 31 = .ok (.invokevirtual 171, 3) := by decide +kernel
theorem dX10_book_34 : decode cX10_book 34 = .ok (.ifCond .eq 5, 3) := by decide +kernel
theorem dX10_book_37 : decode cX10_book 37 = .ok (.iconst 0, 1) := by decide +kernel
theorem dX10_book_38 : decode cX10_book 38 = .ok (.ireturn, 1) := by decide +kernel
theorem dX10_book_39 : decode cX10_book 39 = .ok (.aload_n 0, 1) := by decide +kernel
theorem dX10_book_40 : decode cX10_book 40 = .ok (.iload_n 1, 1) := by decide +kernel
theorem dX10_book_41 : decode cX10_book 41 = .ok (.invokevirtual 175, 3) := by decide +kernel
theorem dX10_book_44 : decode cX10_book 44 = .ok (.iconst 0, 1) := by decide +kernel
theorem dX10_book_45 : decode cX10_book 45 = .ok (.istore_n 2, 1) := by decide +kernel
theorem dX10_book_46 : decode cX10_book 46 = .ok (.iconst 0, 1) := by decide +kernel
theorem dX10_book_47 : decode cX10_book 47 = .ok (.istore_n 3, 1) := by decide +kernel
theorem dX10_book_48 : decode cX10_book 48 = .ok (.aload_n 0, 1) := by decide +kernel
theorem dX10_book_49 : decode cX10_book 49 = .ok (.getfield 111, 3) := by decide +kernel
theorem dX10_book_52 : decode cX10_book 52 = .ok (.ifCond .ne 116, 3) := by decide +kernel
theorem dX10_book_55 : decode cX10_book 55 = .ok (.aload_n 0, 1) := by decide +kernel
theorem dX10_book_56 : decode cX10_book 56 = .ok (.getfield 104, 3) := by decide +kernel
theorem dX10_book_59 : decode cX10_book 59 = .ok (.aload_n 0, 1) := by decide +kernel
theorem dX10_book_60 : decode cX10_book 60 = .ok (.getfield 101, 3) := by decide +kernel
theorem dX10_book_63 : decode cX10_book 63 = .ok (.if_icmp .ge 105, 3) := by decide +kernel
theorem dX10_book_66 : decode cX10_book 66 = .ok (.aload_n 0, 1) := by decide +kernel
theorem dX10_book_67 : decode cX10_book 67 = .ok (.getfield 104, 3) := by decide +kernel
theorem dX10_book_70 : decode cX10_book 70 = .ok (.istore 4, 2) := by decide +kernel
theorem dX10_book_72 : decode cX10_book 72 = .ok (.aload_n 0, 1) := by decide +kernel
theorem dX10_book_73 : decode cX10_book 73 = .ok (.iconst 0, 1) := by decide +kernel
theorem dX10_book_74 : decode cX10_book 74 = .ok (.aload_n 0, 1) := by decide +kernel
theorem dX10_book_75 : decode cX10_book 75 = .ok (.getfield 23, 3) := by decide +kernel
theorem dX10_book_78 : decode cX10_book 78 = .ok (.iconst 1, 1) := by decide +kernel
theorem dX10_book_79 : decode cX10_book 79 = .ok (.iaload, 1) := by decide +kernel
theorem dX10_book_80 : decode cX10_book 80 = .ok (.iconst 1, 1) := by decide +kernel
theorem dX10_book_81 : decode cX10_book 81 = .ok (.isub, 1) := by decide +kernel
theorem dX10_book_82 : decode cX10_book 82 = .ok (.invokevirtual 163, 3) := by decide +kernel
theorem dX10_book_85 : decode cX10_book 85 = .ok (.istore 5, 2) := by decide +kernel
theorem dX10_book_87 : decode cX10_book 87 = .ok (.aload_n 0, 1) := by decide +kernel
theorem dX10_book_88 : decode cX10_book 88 = .ok (.getfield 111, 3) := by decide +kernel
theorem dX10_book_91 : decode cX10_book 91 = .ok (.ifCond .ne 19, 3) := by decide +kernel
theorem dX10_book_94 : decode cX10_book 94 = .ok (.iload_n 3, 1) := by decide +kernel
theorem dX10_book_95 : decode cX10_book 95 = .ok (.iload 5, 2) := by decide +kernel
theorem dX10_book_97 : decode cX10_book 97 = .ok (.invokestatic 254, 3) := by decide +kernel
theorem dX10_book_100 : decode cX10_book 100 = .ok (.ifCond .eq 10, 3) := by decide +kernel
theorem dX10_book_103 : decode cX10_book 103 = .ok (.aload_n 0, 1) := by decide +kernel
theorem dX10_book_104 : decode cX10_book 104 = .ok (.iconst 2, 1) := by decide +kernel
theorem dX10_book_105 : decode cX10_book 105 = .ok (.iload 4, 2) := by decide +kernel
theorem dX10_book_107 : decode cX10_book 107 = .ok (.invokevirtual 124, 3) := by decide +kernel
theorem dX10_book_110 : decode cX10_book 110 = .ok (.aload_n 0, 1) := by decide +kernel
theorem dX10_book_111 : decode cX10_book 111 = .ok (.iconst 0, 1) := by decide +kernel
theorem dX10_book_112 : decode cX10_book 112 = .ok (.iconst 1, 1) := by decide +kernel
theorem dX10_book_113 : decode cX10_book 113 = .ok (.invokevirtual 163, 3) := by decide +kernel
theorem dX10_book_116 : decode cX10_book 116 = .ok (.istore 6, 2) := by decide +kernel
theorem dX10_book_118 : decode cX10_book 118 = .ok (.aload_n 0, 1) := by decide +kernel
theorem dX10_book_119 : decode cX10_book 119 = .ok (.bipush 59, 2) := by decide +kernel
theorem dX10_book_121 : decode cX10_book 121 = .ok (.invokevirtual 167, 3) := by decide +kernel
theorem dX10_book_124 : decode cX10_book 124 = .ok (.aload_n 0, 1) := by decide +kernel
theorem dX10_book_125 : decode cX10_book 125 = .ok (.getfield 111, 3) := by decide +kernel
theorem dX10_book_128 : decode cX10_book 128 = .ok (.ifCond .ne 33, 3) := by decide +kernel
theorem dX10_book_131 : decode cX10_book 131 = .ok (.iload_n 3, 1) := by decide +kernel
theorem dX10_book_132 : decode cX10_book 132 = .ok (.iconst 1, 1) := by decide +kernel
theorem dX10_book_133 : decode cX10_book 133 = .ok (.iload 5, 2) := by decide +kernel
theorem dX10_book_135 : decode cX10_book 135 = .ok (.ishl, 1) := by decide +kernel
theorem dX10_book_136 : decode cX10_book 136 = .ok (.ior, 1) := by decide +kernel
theorem dX10_book_137 : decode cX10_book 137 = .ok (.istore_n 3, 1) := by decide +kernel
theorem dX10_book_138 : decode cX10_book 138 = .ok (.aload_n 0, 1) := by decide +kernel
theorem dX10_book_139 : decode cX10_book 139 = .ok (.getfield 55, 3) := by decide +kernel
theorem dX10_book_142 : decode cX10_book 142 = .ok (.iload_n 2, 1) := by decide +kernel
theorem dX10_book_143 : decode cX10_book 143 = .ok (.aaload, 1) := by decide +kernel
theorem dX10_book_144 : decode cX10_book 144 = .ok (.iconst 0, 1) := by decide +kernel
theorem dX10_book_145 : decode cX10_book 145 = .ok (.iload 5, 2) := by decide +kernel
theorem dX10_book_147 : decode cX10_book 147 = .ok (.iastore, 1) := by decide +kernel
theorem dX10_book_148 : decode cX10_book 148 = .ok (.aload_n 0, 1) := by decide +kernel
theorem dX10_book_149 : decode cX10_book 149 = .ok (.getfield 55, 3) := by decide +kernel
theorem dX10_book_152 : decode cX10_book 152 = .ok (.iload_n 2, 1) := by decide +kernel
theorem dX10_book_153 : decode cX10_book 153 = .ok (.aaload, 1) := by decide +kernel
theorem dX10_book_154 : decode cX10_book 154 = .ok (.iconst 1, 1) := by decide +kernel
theorem dX10_book_155 : decode cX10_book 155 = .ok (.iload 6, 2) := by decide +kernel
theorem dX10_book_157 : decode cX10_book 157 = .ok (.iastore, 1) := by decide +kernel
theorem dX10_book_158 : decode cX10_book 158 = .ok (.iinc 2 1, 3) := by decide +kernel
theorem dX10_book_161 : decode cX10_book 161 = .ok (.aload_n 0, 1) := by decide +kernel
theorem dX10_book_162 : decode cX10_book 162 = .ok (.invokevirtual 117, 3) := by decide +kernel
theorem dX10_book_165 : decode cX10_book 165 = .ok (.goto (-117), 3) := by decide +kernel
theorem dX10_book_168 : decode cX10_book 168 = .ok (.aload_n 0, 1) := by decide +kernel
theorem dX10_book_169 : decode cX10_book 169 = .ok (.getfield 111, 3) := by decide +kernel
theorem dX10_book_172 : decode cX10_book 172 = .ok (.ifCond .eq 8, 3) := by decide +kernel
theorem dX10_book_175 : decode cX10_book 175 = .ok (.aload_n 0, 1) := by decide +kernel
theorem dX10_book_176 : decode cX10_book 176 = .ok (.invokevirtual 181, 3) := by decide +kernel
theorem dX10_book_179 : decode cX10_book 179 = .ok (.ireturn, 1) := by decide +kernel
theorem dX10_book_180 : decode cX10_book 180 = .ok (.aload_n 0, 1) := by decide +kernel
theorem dX10_book_181 : decode cX10_book 181 = .ok (.iconst (-1), 1) := by decide +kernel
theorem dX10_book_182 : decode cX10_book 182 = .ok (.putfield 9, 3) := by decide +kernel
theorem dX10_book_185 : decode cX10_book 185 = .ok (.aload_n 0, 1) := by decide +kernel
theorem dX10_book_186 : decode cX10_book 186 = .ok (.iload_n 2, 1) := by decide +kernel
theorem dX10_book_187 : decode cX10_book 187 = .ok (.putfield 195, 3) := by decide +kernel
theorem dX10_book_190 : decode cX10_book 190 = .ok (.aload_n 0, 1) := by decide +kernel
theorem dX10_book_191 : decode cX10_book 191 = .ok (.getfield 55, 3) := by decide +kernel
theorem dX10_book_194 : decode cX10_book 194 = .ok (.aload_n 0, 1) := by decide +kernel
theorem dX10_book_195 : decode cX10_book 195 = .ok (.getfield 52, 3) := by decide +kernel
theorem dX10_book_198 : decode cX10_book 198 = .ok (.iload_n 2, 1) := by decide +kernel
theorem dX10_book_199 : decode cX10_book 199 = .ok (.invokestatic 184, 3) := by decide +kernel
theorem dX10_book_202 : decode cX10_book 202 = .ok (.iload_n 2, 1) := by decide +kernel
theorem dX10_book_203 : decode cX10_book 203 = .ok (.ireturn, 1) := by decide +kernel
theorem dX10_fault_0 : decode cX10_fault 0 = .ok (.aload_n 0, 1) := by decide +kernel
theorem dX10_fault_1 : decode cX10_fault 1 = .ok (.iconst 0, 1) := by decide +kernel
theorem dX10_fault_2 : decode cX10_fault 2 = .ok (.putfield 95, 3) := by decide +kernel
theorem dX10_fault_5 : decode cX10_fault 5 = .ok (.aload_n 0, 1) := by decide +kernel
theorem dX10_fault_6 : decode cX10_fault 6 = .ok (.getfield 9, 3) := by decide +kernel
theorem dX10_fault_9 : decode cX10_fault 9 = .ok (.ireturn, 1) := by decide +kernel
theorem dX10_breathBy_0 : decode cX10_breathBy 0 = .ok (.aload_n 0, 1) := by decide +kernel
theorem dX10_breathBy_1 : decode cX10_breathBy 1 = .ok (.getfield 61, 3) := by decide +kernel
theorem dX10_breathBy_4 : decode cX10_breathBy 4 = .ok (.iconst 0, 1) := by decide +kernel
theorem dX10_breathBy_5 : decode cX10_breathBy 5 = .ok (.iload_n 1, 1) := by decide +kernel
theorem dX10_breathBy_6 : decode cX10_breathBy 6 = .ok (.iastore, 1) := by decide +kernel
theorem dX10_breathBy_7 : decode cX10_breathBy 7 = .ok (.aload_n 0, 1) := by decide +kernel
theorem dX10_breathBy_8 : decode cX10_breathBy 8 = .ok (.getfield 61, 3) := by decide +kernel
theorem dX10_breathBy_11 : decode cX10_breathBy 11 = .ok (.iconst 1, 1) := by decide +kernel
theorem dX10_breathBy_12 : decode cX10_breathBy 12 = .ok (.iload_n 2, 1) := by decide +kernel
theorem dX10_breathBy_13 : decode cX10_breathBy 13 = .ok (.iastore, 1) := by decide +kernel
theorem dX10_breathBy_14 : decode cX10_breathBy 14 = .ok (.aload_n 0, 1) := by decide +kernel
theorem dX10_breathBy_15 : decode cX10_breathBy 15 = .ok (.getfield 61, 3) := by decide +kernel
theorem dX10_breathBy_18 : decode cX10_breathBy 18 = .ok (.iconst 2, 1) := by decide +kernel
theorem dX10_breathBy_19 : decode cX10_breathBy 19 = .ok (.iload_n 3, 1) := by decide +kernel
theorem dX10_breathBy_20 : decode cX10_breathBy 20 = .ok (.iastore, 1) := by decide +kernel
theorem dX10_breathBy_21 : decode cX10_breathBy 21 = .ok (.aload_n 0, 1) := by decide +kernel
theorem dX10_breathBy_22 : decode cX10_breathBy 22 = .ok (.getfield 61, 3) := by decide +kernel
theorem dX10_breathBy_25 : decode cX10_breathBy 25 = .ok (.iconst 3, 1) := by decide +kernel
theorem dX10_breathBy_26 : decode cX10_breathBy 26 = .ok (.iload 4, 2) := by decide +kernel
theorem dX10_breathBy_28 : decode cX10_breathBy 28 = .ok (.iastore, 1) := by decide +kernel
theorem dX10_breathBy_29 : decode cX10_breathBy 29 = .ok (.aload_n 0, 1) := by decide +kernel
theorem dX10_breathBy_30 : decode cX10_breathBy 30 = .ok (.getfield 61, 3) := by decide +kernel
theorem dX10_breathBy_33 : decode cX10_breathBy 33 = .ok (.iconst 4, 1) := by decide +kernel
theorem dX10_breathBy_34 : decode cX10_breathBy 34 = .ok (.iload 5, 2) := by decide +kernel
theorem dX10_breathBy_36 : decode cX10_breathBy 36 = .ok (.iastore, 1) := by decide +kernel
theorem dX10_breathBy_37 : decode cX10_breathBy 37 = .ok (.aload_n 0, 1) := by decide +kernel
theorem dX10_breathBy_38 : decode cX10_breathBy 38 = .ok (.getfield 61, 3) := by decide +kernel
theorem dX10_breathBy_41 : decode cX10_breathBy 41 = .ok (.iconst 5, 1) := by decide +kernel
theorem dX10_breathBy_42 : decode cX10_breathBy 42 = .ok (.iload 6, 2) := by decide +kernel
theorem dX10_breathBy_44 : decode cX10_breathBy 44 = .ok (.iastore, 1) := by decide +kernel
theorem dX10_breathBy_45 : decode cX10_breathBy 45 = .ok (.aload_n 0, 1) := by decide +kernel
theorem dX10_breathBy_46 : decode cX10_breathBy 46 = .ok (.getfield 61, 3) := by decide +kernel
theorem dX10_breathBy_49 : decode cX10_breathBy 49 = .ok (.bipush 6, 2) := by decide +kernel
theorem dX10_breathBy_51 : decode cX10_breathBy 51 = .ok (.iload 7, 2) := by decide +kernel
theorem dX10_breathBy_53 : decode cX10_breathBy 53 = .ok (.iastore, 1) := by decide +kernel
theorem dX10_breathBy_54 : decode cX10_breathBy 54 = .ok (.aload_n 0, 1) := by decide +kernel
theorem dX10_breathBy_55 : decode cX10_breathBy 55 = .ok (.getfield 61, 3) := by decide +kernel
theorem dX10_breathBy_58 : decode cX10_breathBy 58 = .ok (.bipush 7, 2) := by decide +kernel
theorem dX10_breathBy_60 : decode cX10_breathBy 60 = .ok (.iload 8, 2) := by decide +kernel
theorem dX10_breathBy_62 : decode cX10_breathBy 62 = .ok (.iastore, 1) := by decide +kernel
theorem dX10_breathBy_63 : decode cX10_breathBy 63 = .ok (.aload_n 0, 1) := by decide +kernel
theorem dX10_breathBy_64 : decode cX10_breathBy 64 = .ok (.invokevirtual 258, 3) := by decide +kernel
theorem dX10_breathBy_67 : decode cX10_breathBy 67 = .ok (.ireturn, 1) := by decide +kernel
theorem dX10_breathOf_0 : decode cX10_breathOf 0 = .ok (.aload_n 0, 1) := by decide +kernel
theorem dX10_breathOf_1 : decode cX10_breathOf 1 = .ok (.aload_n 0, 1) := by decide +kernel
theorem dX10_breathOf_2 : decode cX10_breathOf 2 = .ok (.getfield 37, 3) := by decide +kernel
theorem dX10_breathOf_5 : decode cX10_breathOf 5 = .ok (.iload_n 2, 1) := by decide +kernel
theorem dX10_breathOf_6 : decode cX10_breathOf 6 = .ok (.aaload, 1) := by decide +kernel
theorem dX10_breathOf_7 : decode cX10_breathOf 7 = .ok (.iconst 1, 1) := by decide +kernel
theorem dX10_breathOf_8 : decode cX10_breathOf 8 = .ok (.iaload, 1) := by decide +kernel
theorem dX10_breathOf_9 : decode cX10_breathOf 9 = .ok (.aload_n 0, 1) := by decide +kernel
theorem dX10_breathOf_10 : decode cX10_breathOf 10 = .ok (.getfield 31, 3) := by decide +kernel
theorem dX10_breathOf_13 : decode cX10_breathOf 13 = .ok (.iload_n 3, 1) := by decide +kernel
theorem dX10_breathOf_14 : decode cX10_breathOf 14 = .ok (.aaload, 1) := by decide +kernel
theorem dX10_breathOf_15 : decode cX10_breathOf 15 = .ok (.iconst 1, 1) := by decide +kernel
theorem dX10_breathOf_16 : decode cX10_breathOf 16 = .ok (.iaload, 1) := by decide +kernel
theorem dX10_breathOf_17 : decode cX10_breathOf 17 = .ok (.aload_n 1, 1) := by decide +kernel
theorem dX10_breathOf_18 : decode cX10_breathOf 18 = .ok (.iconst 0, 1) := by decide +kernel
theorem dX10_breathOf_19 : decode cX10_breathOf 19 = .ok (.iload_n 3, 1) := by decide +kernel
theorem dX10_breathOf_20 : decode cX10_breathOf 20 = .ok (.iadd, 1) := by decide +kernel
theorem dX10_breathOf_21 : decode cX10_breathOf 21 = .ok (.iaload, 1) := by decide +kernel
theorem dX10_breathOf_22 : decode cX10_breathOf 22 = .ok (.aload_n 1, 1) := by decide +kernel
theorem dX10_breathOf_23 : decode cX10_breathOf 23 = .ok (.bipush 14, 2) := by decide +kernel
theorem dX10_breathOf_25 : decode cX10_breathOf 25 = .ok (.iload_n 3, 1) := by decide +kernel
theorem dX10_breathOf_26 : decode cX10_breathOf 26 = .ok (.iadd, 1) := by decide +kernel
theorem dX10_breathOf_27 : decode cX10_breathOf 27 = .ok (.iaload, 1) := by decide +kernel
theorem dX10_breathOf_28 : decode cX10_breathOf 28 = .ok (.iload_n 2, 1) := by decide +kernel
theorem dX10_breathOf_29 : decode cX10_breathOf 29 = .ok (.aload_n 1, 1) := by decide +kernel
theorem dX10_breathOf_30 : decode cX10_breathOf 30 = .ok (.bipush 35, 2) := by decide +kernel
theorem dX10_breathOf_32 : decode cX10_breathOf 32 = .ok (.iload_n 2, 1) := by decide +kernel
theorem dX10_breathOf_33 : decode cX10_breathOf 33 = .ok (.iadd, 1) := by decide +kernel
theorem dX10_breathOf_34 : decode cX10_breathOf 34 = .ok (.iaload, 1) := by decide +kernel
theorem dX10_breathOf_35 : decode cX10_breathOf 35 = .ok (.aload_n 1, 1) := by decide +kernel
theorem dX10_breathOf_36 : decode cX10_breathOf 36 = .ok (.bipush 56, 2) := by decide +kernel
theorem dX10_breathOf_38 : decode cX10_breathOf 38 = .ok (.iaload, 1) := by decide +kernel
theorem dX10_breathOf_39 : decode cX10_breathOf 39 = .ok (.iload_n 3, 1) := by decide +kernel
theorem dX10_breathOf_40 : decode cX10_breathOf 40 = .ok (.invokevirtual 261, 3) := by decide +kernel
theorem dX10_breathOf_43 : decode cX10_breathOf 43 = .ok (.ireturn, 1) := by decide +kernel
theorem dX10_ones_0 : decode cX10_ones 0 = .ok (.iconst 0, 1) := by decide +kernel
theorem dX10_ones_1 : decode cX10_ones 1 = .ok (.istore_n 1, 1) := by decide +kernel
theorem dX10_ones_2 : decode cX10_ones 2 = .ok (.iconst 0, 1) := by decide +kernel
theorem dX10_ones_3 : decode cX10_ones 3 = .ok (.istore_n 2, 1) := by decide +kernel
theorem dX10_ones_4 : decode cX10_ones 4 = .ok (.iload_n 2, 1) := by decide +kernel
theorem dX10_ones_5 : decode cX10_ones 5 = .ok (.bipush 7, 2) := by decide +kernel
theorem dX10_ones_7 : decode cX10_ones 7 = .ok (.if_icmp .ge 17, 3) := by decide +kernel
theorem dX10_ones_10 : decode cX10_ones 10 = .ok (.iload_n 1, 1) := by decide +kernel
theorem dX10_ones_11 : decode cX10_ones 11 = .ok (.iload_n 0, 1) := by decide +kernel
theorem dX10_ones_12 : decode cX10_ones 12 = .ok (.iload_n 2, 1) := by decide +kernel
theorem dX10_ones_13 : decode cX10_ones 13 = .ok (.ishr, 1) := by decide +kernel
theorem dX10_ones_14 : decode cX10_ones 14 = .ok (.iconst 1, 1) := by decide +kernel
theorem dX10_ones_15 : decode cX10_ones 15 = .ok (.iand, 1) := by decide +kernel
theorem dX10_ones_16 : decode cX10_ones 16 = .ok (.iadd, 1) := by decide +kernel
theorem dX10_ones_17 : decode cX10_ones 17 = .ok (.istore_n 1, 1) := by decide +kernel
theorem dX10_ones_18 : decode cX10_ones 18 = .ok (.iinc 2 1, 3) := by decide +kernel
theorem dX10_ones_21 : decode cX10_ones 21 = .ok (.goto (-17), 3) := by decide +kernel
theorem dX10_ones_24 : decode cX10_ones 24 = .ok (.iload_n 1, 1) := by decide +kernel
theorem dX10_ones_25 : decode cX10_ones 25 = .ok (.ireturn, 1) := by decide +kernel
theorem dX10_sungBy_0 : decode cX10_sungBy 0 = .ok (.iconst 0, 1) := by decide +kernel
theorem dX10_sungBy_1 : decode cX10_sungBy 1 = .ok (.istore_n 3, 1) := by decide +kernel
theorem dX10_sungBy_2 : decode cX10_sungBy 2 = .ok (.iload_n 3, 1) := by decide +kernel
theorem dX10_sungBy_3 : decode cX10_sungBy 3 = .ok (.aload_n 0, 1) := by decide +kernel
theorem dX10_sungBy_4 : decode cX10_sungBy 4 = .ok (.getfield 23, 3) := by decide +kernel
theorem dX10_sungBy_7 : decode cX10_sungBy 7 = .ok (.iconst 0, 1) := by decide +kernel
theorem dX10_sungBy_8 : decode cX10_sungBy 8 = .ok (.iaload, 1) := by decide +kernel
theorem dX10_sungBy_9 : decode cX10_sungBy 9 = .ok (.if_icmp .ge 52, 3) := by decide +kernel
theorem dX10_sungBy_12 : decode cX10_sungBy 12 = .ok (.aload_n 0, 1) := by decide +kernel
theorem dX10_sungBy_13 : decode cX10_sungBy 13 = .ok (.getfield 31, 3) := by decide +kernel
theorem dX10_sungBy_16 : decode cX10_sungBy 16 = .ok (.iload_n 3, 1) := by decide +kernel
theorem dX10_sungBy_17 : decode cX10_sungBy 17 = .ok (.aaload, 1) := by decide +kernel
theorem dX10_sungBy_18 : decode cX10_sungBy 18 = .ok (.iconst 0, 1) := by decide +kernel
theorem dX10_sungBy_19 : decode cX10_sungBy 19 = .ok (.iaload, 1) := by decide +kernel
theorem dX10_sungBy_20 : decode cX10_sungBy 20 = .ok (.aload_n 1, 1) := by decide +kernel
theorem dX10_sungBy_21 : decode cX10_sungBy 21 = .ok (.bipush 35, 2) := by decide +kernel
theorem dX10_sungBy_23 : decode cX10_sungBy 23 = .ok (.iload_n 2, 1) := by decide +kernel
theorem dX10_sungBy_24 : decode cX10_sungBy 24 = .ok (.iadd, 1) := by decide +kernel
theorem dX10_sungBy_25 : decode cX10_sungBy 25 = .ok (.iaload, 1) := by decide +kernel
theorem dX10_sungBy_26 : decode cX10_sungBy 26 = .ok (.if_icmp .ne 29, 3) := by decide +kernel
theorem dX10_sungBy_29 : decode cX10_sungBy 29 = .ok (.aload_n 1, 1) := by decide +kernel
theorem dX10_sungBy_30 : decode cX10_sungBy 30 = .ok (.bipush 7, 2) := by decide +kernel
theorem dX10_sungBy_32 : decode cX10_sungBy 32 = .ok (.iload_n 3, 1) := by decide +kernel
theorem dX10_sungBy_33 : decode cX10_sungBy 33 = .ok (.iadd, 1) := by decide +kernel
theorem dX10_sungBy_34 : decode cX10_sungBy 34 = .ok (.iaload, 1) := by decide +kernel
theorem dX10_sungBy_35 : decode cX10_sungBy 35 = .ok (.ifCond .ne 20, 3) := by decide +kernel
theorem dX10_sungBy_38 : decode cX10_sungBy 38 = .ok (.aload_n 0, 1) := by decide +kernel
theorem dX10_sungBy_39 : decode cX10_sungBy 39 = .ok (.aload_n 1, 1) := by decide +kernel
theorem dX10_sungBy_40 : decode cX10_sungBy 40 = .ok (.iload_n 2, 1) := by decide +kernel
theorem dX10_sungBy_41 : decode cX10_sungBy 41 = .ok (.iload_n 3, 1) := by decide +kernel
theorem dX10_sungBy_42 : decode cX10_sungBy 42 = .ok (.invokevirtual 265, 3) := by decide +kernel
theorem dX10_sungBy_45 : decode cX10_sungBy 45 = .ok (.aload_n 1, 1) := by decide +kernel
theorem dX10_sungBy_46 : decode cX10_sungBy 46 = .ok (.iconst 0, 1) := by decide +kernel
theorem dX10_sungBy_47 : decode cX10_sungBy 47 = .ok (.iload_n 3, 1) := by decide +kernel
theorem dX10_sungBy_48 : decode cX10_sungBy 48 = .ok (.iadd, 1) := by decide +kernel
theorem dX10_sungBy_49 : decode cX10_sungBy 49 = .ok (.iaload, 1) := by decide +kernel
theorem dX10_sungBy_50 : decode cX10_sungBy 50 = .ok (.if_icmp .gt 5, 3) := by decide +kernel
theorem dX10_sungBy_53 : decode cX10_sungBy 53 = .ok (.iload_n 3, 1) := by decide +kernel
theorem dX10_sungBy_54 : decode cX10_sungBy 54 = .ok (.ireturn, 1) := by decide +kernel
theorem dX10_sungBy_55 : decode cX10_sungBy 55 = .ok (.iinc 3 1, 3) := by decide +kernel
theorem dX10_sungBy_58 : decode cX10_sungBy 58 = .ok (.goto (-56), 3) := by decide +kernel
theorem dX10_sungBy_61 : decode cX10_sungBy 61 = .ok (.iconst (-1), 1) := by decide +kernel
theorem dX10_sungBy_62 : decode cX10_sungBy 62 = .ok (.ireturn, 1) := by decide +kernel
theorem dX10_sings_0 : decode cX10_sings 0 = .ok (.aload_n 0, 1) := by decide +kernel
theorem dX10_sings_1 : decode cX10_sings 1 = .ok (.aload_n 1, 1) := by decide +kernel
theorem dX10_sings_2 : decode cX10_sings 2 = .ok (.iload_n 2, 1) := by decide +kernel
theorem dX10_sings_3 : decode cX10_sings 3 = .ok (.invokevirtual 269, 3) := by decide +kernel
theorem dX10_sings_6 : decode cX10_sings 6 = .ok (.istore_n 3, 1) := by decide +kernel
theorem dX10_sings_7 : decode cX10_sings 7 = .ok (.iload_n 3, 1) := by decide +kernel
theorem dX10_sings_8 : decode cX10_sings 8 = .ok (.iconst (-1), 1) := by decide +kernel
theorem dX10_sings_9 : decode cX10_sings 9 = .ok (.if_icmp .ne 5, 3) := by decide +kernel
theorem dX10_sings_12 : decode cX10_sings 12 = .ok (.iconst 0, 1) := by decide +kernel
theorem dX10_sings_13 : decode cX10_sings 13 = .ok (.ireturn, 1) := by decide +kernel
theorem dX10_sings_14 : decode cX10_sings 14 = .ok (.aload_n 1, 1) := by decide +kernel
theorem dX10_sings_15 : decode cX10_sings 15 = .ok (.iconst 0, 1) := by decide +kernel
theorem dX10_sings_16 : decode cX10_sings 16 = .ok (.iload_n 3, 1) := by decide +kernel
theorem dX10_sings_17 : decode cX10_sings 17 = .ok (.iadd, 1) := by decide +kernel
theorem dX10_sings_18 : decode cX10_sings 18 = .ok (.dup2, 1) := by decide +kernel
theorem dX10_sings_19 : decode cX10_sings 19 = .ok (.iaload, 1) := by decide +kernel
theorem dX10_sings_20 : decode cX10_sings 20 = .ok (.aload_n 0, 1) := by decide +kernel
theorem dX10_sings_21 : decode cX10_sings 21 = .ok (.aload_n 1, 1) := by decide +kernel
theorem dX10_sings_22 : decode cX10_sings 22 = .ok (.iload_n 2, 1) := by decide +kernel
theorem dX10_sings_23 : decode cX10_sings 23 = .ok (.iload_n 3, 1) := by decide +kernel
theorem dX10_sings_24 : decode cX10_sings 24 = .ok (.invokevirtual 265, 3) := by decide +kernel
theorem dX10_sings_27 : decode cX10_sings 27 = .ok (.isub, 1) := by decide +kernel
theorem dX10_sings_28 : decode cX10_sings 28 = .ok (.iastore, 1) := by decide +kernel
theorem dX10_sings_29 : decode cX10_sings 29 = .ok (.aload_n 1, 1) := by decide +kernel
theorem dX10_sings_30 : decode cX10_sings 30 = .ok (.bipush 14, 2) := by decide +kernel
theorem dX10_sings_32 : decode cX10_sings 32 = .ok (.iload_n 3, 1) := by decide +kernel
theorem dX10_sings_33 : decode cX10_sings 33 = .ok (.iadd, 1) := by decide +kernel
theorem dX10_sings_34 : decode cX10_sings 34 = .ok (.dup2, 1) := by decide +kernel
theorem dX10_sings_35 : decode cX10_sings 35 = .ok (.iaload, 1) := by decide +kernel
theorem dX10_sings_36 : decode cX10_sings 36 = .ok (.iconst 1, 1) := by decide +kernel
theorem dX10_sings_37 : decode cX10_sings 37 = .ok (.iadd, 1) := by decide +kernel
theorem dX10_sings_38 : decode cX10_sings 38 = .ok (.iastore, 1) := by decide +kernel
theorem dX10_sings_39 : decode cX10_sings 39 = .ok (.aload_n 1, 1) := by decide +kernel
theorem dX10_sings_40 : decode cX10_sings 40 = .ok (.bipush 28, 2) := by decide +kernel
theorem dX10_sings_42 : decode cX10_sings 42 = .ok (.iload_n 3, 1) := by decide +kernel
theorem dX10_sings_43 : decode cX10_sings 43 = .ok (.iadd, 1) := by decide +kernel
theorem dX10_sings_44 : decode cX10_sings 44 = .ok (.dup2, 1) := by decide +kernel
theorem dX10_sings_45 : decode cX10_sings 45 = .ok (.iaload, 1) := by decide +kernel
theorem dX10_sings_46 : decode cX10_sings 46 = .ok (.iconst 1, 1) := by decide +kernel
theorem dX10_sings_47 : decode cX10_sings 47 = .ok (.iadd, 1) := by decide +kernel
theorem dX10_sings_48 : decode cX10_sings 48 = .ok (.iastore, 1) := by decide +kernel
theorem dX10_sings_49 : decode cX10_sings 49 = .ok (.iconst 1, 1) := by decide +kernel
theorem dX10_sings_50 : decode cX10_sings 50 = .ok (.ireturn, 1) := by decide +kernel
theorem dX10_hymns_0 : decode cX10_hymns 0 = .ok (.aload_n 0, 1) := by decide +kernel
theorem dX10_hymns_1 : decode cX10_hymns 1 = .ok (.iconst 0, 1) := by decide +kernel
theorem dX10_hymns_2 : decode cX10_hymns 2 = .ok (.putfield 273, 3) := by decide +kernel
theorem dX10_hymns_5 : decode cX10_hymns 5 = .ok (.iconst 0, 1) := by decide +kernel
theorem dX10_hymns_6 : decode cX10_hymns 6 = .ok (.istore_n 2, 1) := by decide +kernel
theorem dX10_hymns_7 : decode cX10_hymns 7 = .ok (.iload_n 2, 1) := by decide +kernel
theorem dX10_hymns_8 : decode cX10_hymns 8 = .ok (.aload_n 0, 1) := by decide +kernel
theorem dX10_hymns_9 : decode cX10_hymns 9 = .ok (.getfield 23, 3) := by decide +kernel
theorem dX10_hymns_12 : decode cX10_hymns 12 = .ok (.iconst 1, 1) := by decide +kernel
theorem dX10_hymns_13 : decode cX10_hymns 13 = .ok (.iaload, 1) := by decide +kernel
theorem dX10_hymns_14 : decode cX10_hymns 14 = .ok (.if_icmp .ge 52, 3) := by decide +kernel
theorem dX10_hymns_17 : decode cX10_hymns 17 = .ok (.aload_n 0, 1) := by decide +kernel
theorem dX10_hymns_18 : decode cX10_hymns 18 = .ok (.aload_n 1, 1) := by decide +kernel
theorem dX10_hymns_19 : decode cX10_hymns 19 = .ok (.iload_n 2, 1) := by decide +kernel
theorem dX10_hymns_20 : decode cX10_hymns 20 = .ok (.invokevirtual 276, 3) := by decide +kernel
theorem dX10_hymns_23 : decode cX10_hymns 23 = .ok (.istore_n 3, 1) := by decide +kernel
theorem dX10_hymns_24 : decode cX10_hymns 24 = .ok (.aload_n 1, 1) := by decide +kernel
theorem dX10_hymns_25 : decode cX10_hymns 25 = .ok (.bipush 55, 2) := by decide +kernel
theorem dX10_hymns_27 : decode cX10_hymns 27 = .ok (.dup2, 1) := by decide +kernel
theorem dX10_hymns_28 : decode cX10_hymns 28 = .ok (.iaload, 1) := by decide +kernel
theorem dX10_hymns_29 : decode cX10_hymns 29 = .ok (.iload_n 3, 1) := by decide +kernel
theorem dX10_hymns_30 : decode cX10_hymns 30 = .ok (.ifCond .eq 7, 3) := by decide +kernel
theorem dX10_hymns_33 : decode cX10_hymns 33 = .ok (.iconst 0, 1) := by decide +kernel
theorem dX10_hymns_34 : decode cX10_hymns 34 = .ok (.goto 4, 3) := by decide +kernel
theorem dX10_hymns_37 : decode cX10_hymns 37 = .ok (.iconst 1, 1) := by decide +kernel
theorem dX10_hymns_38 : decode cX10_hymns 38 = .ok (.iadd, 1) := by decide +kernel
theorem dX10_hymns_39 : decode cX10_hymns 39 = .ok (.iastore, 1) := by decide +kernel
theorem dX10_hymns_40 : decode cX10_hymns 40 = .ok (.aload_n 0, 1) := by decide +kernel
theorem dX10_hymns_41 : decode cX10_hymns 41 = .ok (.dup, 1) := by decide +kernel
theorem dX10_hymns_42 : decode cX10_hymns 42 = .ok (.getfield 273, 3) := by decide +kernel
theorem dX10_hymns_45 : decode cX10_hymns 45 = .ok (.iload_n 3, 1) := by decide +kernel
theorem dX10_hymns_46 : decode cX10_hymns 46 = .ok (.ifCond .eq 9, 3) := by decide +kernel
theorem dX10_hymns_49 : decode cX10_hymns 49 = .ok (.iconst 1, 1) := by decide +kernel
theorem dX10_hymns_50 : decode cX10_hymns 50 = .ok (.iload_n 2, 1) := by decide +kernel
theorem dX10_hymns_51 : decode cX10_hymns 51 = .ok (.ishl, 1) := by decide +kernel
theorem dX10_hymns_52 : decode cX10_hymns 52 = .ok (.goto 4, 3) := by decide +kernel
theorem dX10_hymns_55 : decode cX10_hymns 55 = .ok (.iconst 0, 1) := by decide +kernel
theorem dX10_hymns_56 : decode cX10_hymns 56 = .ok (.ior, 1) := by decide +kernel
theorem dX10_hymns_57 : decode cX10_hymns 57 = .ok (.putfield 273, 3) := by decide +kernel
theorem dX10_hymns_60 : decode cX10_hymns 60 = .ok (.iinc 2 1, 3) := by decide +kernel
theorem dX10_hymns_63 : decode cX10_hymns 63 = .ok (.goto (-56), 3) := by decide +kernel
theorem dX10_hymns_66 : decode cX10_hymns 66 = .ok (.return_, 1) := by decide +kernel
theorem dX10_rests_0 : decode cX10_rests 0 = .ok (.iconst 0, 1) := by decide +kernel
theorem dX10_rests_1 : decode cX10_rests 1 = .ok (.istore_n 2, 1) := by decide +kernel
theorem dX10_rests_2 : decode cX10_rests 2 = .ok (.iconst 0, 1) := by decide +kernel
theorem dX10_rests_3 : decode cX10_rests 3 = .ok (.istore_n 3, 1) := by decide +kernel
theorem dX10_rests_4 : decode cX10_rests 4 = .ok (.iload_n 3, 1) := by decide +kernel
theorem dX10_rests_5 : decode cX10_rests 5 = .ok (.aload_n 0, 1) := by decide +kernel
theorem dX10_rests_6 : decode cX10_rests 6 = .ok (.getfield 23, 3) := by decide +kernel
theorem dX10_rests_9 : decode cX10_rests 9 = .ok (.iconst 0, 1) := by decide +kernel
theorem dX10_rests_10 : decode cX10_rests 10 = .ok (.iaload, 1) := by decide +kernel
theorem dX10_rests_11 : decode cX10_rests 11 = .ok (.if_icmp .ge 61, 3) := by decide +kernel
theorem dX10_rests_14 : decode cX10_rests 14 = .ok (.iload_n 2, 1) := by decide +kernel
theorem dX10_rests_15 : decode cX10_rests 15 = .ok (.aload_n 1, 1) := by decide +kernel
theorem dX10_rests_16 : decode cX10_rests 16 = .ok (.iconst 0, 1) := by decide +kernel
theorem dX10_rests_17 : decode cX10_rests 17 = .ok (.iload_n 3, 1) := by decide +kernel
theorem dX10_rests_18 : decode cX10_rests 18 = .ok (.iadd, 1) := by decide +kernel
theorem dX10_rests_19 : decode cX10_rests 19 = .ok (.iaload, 1) := by decide +kernel
theorem dX10_rests_20 : decode cX10_rests 20 = .ok (.aload_n 0, 1) := by decide +kernel
theorem dX10_rests_21 : decode cX10_rests 21 = .ok (.getfield 31, 3) := by decide +kernel
theorem dX10_rests_24 : decode cX10_rests 24 = .ok (.iload_n 3, 1) := by decide +kernel
theorem dX10_rests_25 : decode cX10_rests 25 = .ok (.aaload, 1) := by decide +kernel
theorem dX10_rests_26 : decode cX10_rests 26 = .ok (.iconst 2, 1) := by decide +kernel
theorem dX10_rests_27 : decode cX10_rests 27 = .ok (.iaload, 1) := by decide +kernel
theorem dX10_rests_28 : decode cX10_rests 28 = .ok (.if_icmp .ge 7, 3) := by decide +kernel
theorem dX10_rests_31 : decode cX10_rests 31 = .ok (.iconst 1, 1) := by decide +kernel
theorem dX10_rests_32 : decode cX10_rests 32 = .ok (.goto 4, 3) := by decide +kernel
theorem dX10_rests_35 : decode cX10_rests 35 = .ok (.iconst 0, 1) := by decide +kernel
theorem dX10_rests_36 : decode cX10_rests 36 = .ok (.ior, 1) := by decide +kernel
theorem dX10_rests_37 : decode cX10_rests 37 = .ok (.istore_n 2, 1) := by decide +kernel
theorem dX10_rests_38 : decode cX10_rests 38 = .ok (.aload_n 1, 1) := by decide +kernel
theorem dX10_rests_39 : decode cX10_rests 39 = .ok (.iconst 0, 1) := by decide +kernel
theorem dX10_rests_40 : decode cX10_rests 40 = .ok (.iload_n 3, 1) := by decide +kernel
theorem dX10_rests_41 : decode cX10_rests 41 = .ok (.iadd, 1) := by decide +kernel
theorem dX10_rests_42 : decode cX10_rests 42 = .ok (.aload_n 0, 1) := by decide +kernel
theorem dX10_rests_43 : decode cX10_rests 43 = .ok (.getfield 31, 3) := by decide +kernel
theorem dX10_rests_46 : decode cX10_rests 46 = .ok (.iload_n 3, 1) := by decide +kernel
theorem dX10_rests_47 : decode cX10_rests 47 = .ok (.aaload, 1) := by decide +kernel
theorem dX10_rests_48 : decode cX10_rests 48 = .ok (.iconst 2, 1) := by decide +kernel
theorem dX10_rests_49 : decode cX10_rests 49 = .ok (.iaload, 1) := by decide +kernel
theorem dX10_rests_50 : decode cX10_rests 50 = .ok (.aload_n 1, 1) := by decide +kernel
theorem dX10_rests_51 : decode cX10_rests 51 = .ok (.iconst 0, 1) := by decide +kernel
theorem dX10_rests_52 : decode cX10_rests 52 = .ok (.iload_n 3, 1) := by decide +kernel
theorem dX10_rests_53 : decode cX10_rests 53 = .ok (.iadd, 1) := by decide +kernel
theorem dX10_rests_54 : decode cX10_rests 54 = .ok (.iaload, 1) := by decide +kernel
theorem dX10_rests_55 : decode cX10_rests 55 = .ok (.aload_n 0, 1) := by decide +kernel
theorem dX10_rests_56 : decode cX10_rests 56 = .ok (.getfield 23, 3) := by decide +kernel
theorem dX10_rests_59 : decode cX10_rests 59 = .ok (.iconst 3, 1) := by decide +kernel
theorem dX10_rests_60 : decode cX10_rests 60 = .ok (.iaload, 1) := by decide +kernel
theorem dX10_rests_61 : decode cX10_rests 61 = .ok (.iadd, 1) := by decide +kernel
theorem dX10_rests_62 : decode cX10_rests 62 = .ok (.invokestatic 235, 3) := by decide +kernel
theorem dX10_rests_65 : decode cX10_rests 65 = .ok (.iastore, 1) := by decide +kernel
theorem dX10_rests_66 : decode cX10_rests 66 = .ok (.iinc 3 1, 3) := by decide +kernel
theorem dX10_rests_69 : decode cX10_rests 69 = .ok (.goto (-65), 3) := by decide +kernel
theorem dX10_rests_72 : decode cX10_rests 72 = .ok (.iload_n 2, 1) := by decide +kernel
theorem dX10_rests_73 : decode cX10_rests 73 = .ok (.ireturn, 1) := by decide +kernel
theorem dX10_wordsOf_0 : decode cX10_wordsOf 0 = .ok (.iconst 1, 1) := by decide +kernel
theorem dX10_wordsOf_1 : decode cX10_wordsOf 1 = .ok (.aload_n 0, 1) := by decide +kernel
theorem dX10_wordsOf_2 : decode cX10_wordsOf 2 = .ok (.getfield 37, 3) := by decide +kernel
theorem dX10_wordsOf_5 : decode cX10_wordsOf 5 = .ok (.iload_n 1, 1) := by decide +kernel
theorem dX10_wordsOf_6 : decode cX10_wordsOf 6 = .ok (.aaload, 1) := by decide +kernel
theorem dX10_wordsOf_7 : decode cX10_wordsOf 7 = .ok (.iconst 0, 1) := by decide +kernel
theorem dX10_wordsOf_8 : decode cX10_wordsOf 8 = .ok (.iaload, 1) := by decide +kernel
theorem dX10_wordsOf_9 : decode cX10_wordsOf 9 = .ok (.ishl, 1) := by decide +kernel
theorem dX10_wordsOf_10 : decode cX10_wordsOf 10 = .ok (.istore_n 2, 1) := by decide +kernel
theorem dX10_wordsOf_11 : decode cX10_wordsOf 11 = .ok (.iconst 0, 1) := by decide +kernel
theorem dX10_wordsOf_12 : decode cX10_wordsOf 12 = .ok (.istore_n 3, 1) := by decide +kernel
theorem dX10_wordsOf_13 : decode cX10_wordsOf 13 = .ok (.iload_n 3, 1) := by decide +kernel
theorem dX10_wordsOf_14 : decode cX10_wordsOf 14 = .ok (.aload_n 0, 1) := by decide +kernel
theorem dX10_wordsOf_15 : decode cX10_wordsOf 15 = .ok (.getfield 23, 3) := by decide +kernel
theorem dX10_wordsOf_18 : decode cX10_wordsOf 18 = .ok (.iconst 2, 1) := by decide +kernel
theorem dX10_wordsOf_19 : decode cX10_wordsOf 19 = .ok (.iaload, 1) := by decide +kernel
theorem dX10_wordsOf_20 : decode cX10_wordsOf 20 = .ok (.if_icmp .ge 38, 3) := by decide +kernel
theorem dX10_wordsOf_23 : decode cX10_wordsOf 23 = .ok (.iload_n 2, 1) := by decide +kernel
theorem dX10_wordsOf_24 : decode cX10_wordsOf 24 = .ok (.aload_n 0, 1) := by decide +kernel
theorem dX10_wordsOf_25 : decode cX10_wordsOf 25 = .ok (.getfield 43, 3) := by decide +kernel
theorem dX10_wordsOf_28 : decode cX10_wordsOf 28 = .ok (.iload_n 3, 1) := by decide +kernel
theorem dX10_wordsOf_29 : decode cX10_wordsOf 29 = .ok (.aaload, 1) := by decide +kernel
theorem dX10_wordsOf_30 : decode cX10_wordsOf 30 = .ok (.iconst 0, 1) := by decide +kernel
theorem dX10_wordsOf_31 : decode cX10_wordsOf 31 = .ok (.iaload, 1) := by decide +kernel
theorem dX10_wordsOf_32 : decode cX10_wordsOf 32 = .ok (.iload_n 1, 1) := by decide +kernel
theorem dX10_wordsOf_33 : decode cX10_wordsOf 33 = .ok (.if_icmp .ne 16, 3) := by decide +kernel
theorem dX10_wordsOf_36 : decode cX10_wordsOf 36 = .ok (.iconst 1, 1) := by decide +kernel
theorem dX10_wordsOf_37 : decode cX10_wordsOf 37 = .ok (.aload_n 0, 1) := by decide +kernel
theorem dX10_wordsOf_38 : decode cX10_wordsOf 38 = .ok (.getfield 43, 3) := by decide +kernel
theorem dX10_wordsOf_41 : decode cX10_wordsOf 41 = .ok (.iload_n 3, 1) := by decide +kernel
theorem dX10_wordsOf_42 : decode cX10_wordsOf 42 = .ok (.aaload, 1) := by decide +kernel
theorem dX10_wordsOf_43 : decode cX10_wordsOf 43 = .ok (.iconst 1, 1) := by decide +kernel
theorem dX10_wordsOf_44 : decode cX10_wordsOf 44 = .ok (.iaload, 1) := by decide +kernel
theorem dX10_wordsOf_45 : decode cX10_wordsOf 45 = .ok (.ishl, 1) := by decide +kernel
theorem dX10_wordsOf_46 : decode cX10_wordsOf 46 = .ok (.goto 4, 3) := by decide +kernel
theorem dX10_wordsOf_49 : decode cX10_wordsOf 49 = .ok (.iconst 0, 1) := by decide +kernel
theorem dX10_wordsOf_50 : decode cX10_wordsOf 50 = .ok (.ior, 1) := by decide +kernel
theorem dX10_wordsOf_51 : decode cX10_wordsOf 51 = .ok (.istore_n 2, 1) := by decide +kernel
theorem dX10_wordsOf_52 : decode cX10_wordsOf 52 = .ok (.iinc 3 1, 3) := by decide +kernel
theorem dX10_wordsOf_55 : decode cX10_wordsOf 55 = .ok (.goto (-42), 3) := by decide +kernel
theorem dX10_wordsOf_58 : decode cX10_wordsOf 58 = .ok (.iload_n 2, 1) := by decide +kernel
theorem dX10_wordsOf_59 : decode cX10_wordsOf 59 = .ok (.ireturn, 1) := by decide +kernel
theorem dX10_becomes_0 : decode cX10_becomes 0 = .ok (.aload_n 0, 1) := by decide +kernel
theorem dX10_becomes_1 : decode cX10_becomes 1 = .ok (.iload_n 1, 1) := by decide +kernel
theorem dX10_becomes_2 : decode cX10_becomes 2 = .ok (.iaload, 1) := by decide +kernel
theorem dX10_becomes_3 : decode cX10_becomes 3 = .ok (.iload_n 2, 1) := by decide +kernel
theorem dX10_becomes_4 : decode cX10_becomes 4 = .ok (.if_icmp .ne 5, 3) := by decide +kernel
theorem dX10_becomes_7 : decode cX10_becomes 7 = .ok (.iconst 0, 1) := by decide +kernel
theorem dX10_becomes_8 : decode cX10_becomes 8 = .ok (.ireturn, 1) := by decide +kernel
theorem dX10_becomes_9 : decode cX10_becomes 9 = .ok (.aload_n 0, 1) := by decide +kernel
theorem dX10_becomes_10 : decode cX10_becomes 10 = .ok (.iload_n 1, 1) := by decide +kernel
theorem dX10_becomes_11 : decode cX10_becomes 11 = .ok (.iload_n 2, 1) := by decide +kernel
theorem dX10_becomes_12 : decode cX10_becomes 12 = .ok (.iastore, 1) := by decide +kernel
theorem dX10_becomes_13 : decode cX10_becomes 13 = .ok (.iconst 1, 1) := by decide +kernel
theorem dX10_becomes_14 : decode cX10_becomes 14 = .ok (.ireturn, 1) := by decide +kernel
theorem dX10_dayEnds_0 : decode cX10_dayEnds 0 = .ok (.aload_n 0, 1) := by decide +kernel
theorem dX10_dayEnds_1 : decode cX10_dayEnds 1 = .ok (.aload_n 1, 1) := by decide +kernel
theorem dX10_dayEnds_2 : decode cX10_dayEnds 2 = .ok (.invokevirtual 188, 3) := by decide +kernel
theorem dX10_dayEnds_5 : decode cX10_dayEnds 5 = .ok (.iconst 0, 1) := by decide +kernel
theorem dX10_dayEnds_6 : decode cX10_dayEnds 6 = .ok (.istore_n 2, 1) := by decide +kernel
theorem dX10_dayEnds_7 : decode cX10_dayEnds 7 = .ok (.iload_n 2, 1) := by decide +kernel
theorem dX10_dayEnds_8 : decode cX10_dayEnds 8 = .ok (.aload_n 0, 1) := by decide +kernel
theorem dX10_dayEnds_9 : decode cX10_dayEnds 9 = .ok (.getfield 23, 3) := by decide +kernel
theorem dX10_dayEnds_12 : decode cX10_dayEnds 12 = .ok (.iconst 0, 1) := by decide +kernel
theorem dX10_dayEnds_13 : decode cX10_dayEnds 13 = .ok (.iaload, 1) := by decide +kernel
theorem dX10_dayEnds_14 : decode cX10_dayEnds 14 = .ok (.if_icmp .ge 61, 3) := by decide +kernel
theorem dX10_dayEnds_17 : decode cX10_dayEnds 17 = .ok (.aload_n 1, 1) := by decide +kernel
theorem dX10_dayEnds_18 : decode cX10_dayEnds 18 = .ok (.bipush 21, 2) := by decide +kernel
theorem dX10_dayEnds_20 : decode cX10_dayEnds 20 = .ok (.iload_n 2, 1) := by decide +kernel
theorem dX10_dayEnds_21 : decode cX10_dayEnds 21 = .ok (.iadd, 1) := by decide +kernel
theorem dX10_dayEnds_22 : decode cX10_dayEnds 22 = .ok (.aload_n 1, 1) := by decide +kernel
theorem dX10_dayEnds_23 : decode cX10_dayEnds 23 = .ok (.bipush 28, 2) := by decide +kernel
theorem dX10_dayEnds_25 : decode cX10_dayEnds 25 = .ok (.iload_n 2, 1) := by decide +kernel
theorem dX10_dayEnds_26 : decode cX10_dayEnds 26 = .ok (.iadd, 1) := by decide +kernel
theorem dX10_dayEnds_27 : decode cX10_dayEnds 27 = .ok (.iaload, 1) := by decide +kernel
theorem dX10_dayEnds_28 : decode cX10_dayEnds 28 = .ok (.ifCond .ne 12, 3) := by decide +kernel
theorem dX10_dayEnds_31 : decode cX10_dayEnds 31 = .ok (.aload_n 1, 1) := by decide +kernel
theorem dX10_dayEnds_32 : decode cX10_dayEnds 32 = .ok (.bipush 21, 2) := by decide +kernel
theorem dX10_dayEnds_34 : decode cX10_dayEnds 34 = .ok (.iload_n 2, 1) := by decide +kernel
theorem dX10_dayEnds_35 : decode cX10_dayEnds 35 = .ok (.iadd, 1) := by decide +kernel
theorem dX10_dayEnds_36 : decode cX10_dayEnds 36 = .ok (.iaload, 1) := by decide +kernel
theorem dX10_dayEnds_37 : decode cX10_dayEnds 37 = .ok (.goto 24, 3) := by decide +kernel
theorem dX10_dayEnds_40 : decode cX10_dayEnds 40 = .ok (.sipush 9999, 3) := by decide +kernel
theorem dX10_dayEnds_43 : decode cX10_dayEnds 43 = .ok (.aload_n 1, 1) := by decide +kernel
theorem dX10_dayEnds_44 : decode cX10_dayEnds 44 = .ok (.bipush 21, 2) := by decide +kernel
theorem dX10_dayEnds_46 : decode cX10_dayEnds 46 = .ok (.iload_n 2, 1) := by decide +kernel
theorem dX10_dayEnds_47 : decode cX10_dayEnds 47 = .ok (.iadd, 1) := by decide +kernel
theorem dX10_dayEnds_48 : decode cX10_dayEnds 48 = .ok (.iaload, 1) := by decide +kernel
theorem dX10_dayEnds_49 : decode cX10_dayEnds 49 = .ok (.aload_n 0, 1) := by decide +kernel
theorem dX10_dayEnds_50 : decode cX10_dayEnds 50 = .ok (.getfield 31, 3) := by decide +kernel
theorem dX10_dayEnds_53 : decode cX10_dayEnds 53 = .ok (.iload_n 2, 1) := by decide +kernel
theorem dX10_dayEnds_54 : decode cX10_dayEnds 54 = .ok (.aaload, 1) := by decide +kernel
theorem dX10_dayEnds_55 : decode cX10_dayEnds 55 = .ok (.iconst 1, 1) := by decide +kernel
theorem dX10_dayEnds_56 : decode cX10_dayEnds 56 = .ok (.iaload, 1) := by decide +kernel
theorem dX10_dayEnds_57 : decode cX10_dayEnds 57 = .ok (.iadd, 1) := by decide +kernel
theorem dX10_dayEnds_58 : decode cX10_dayEnds 58 = .ok (.invokestatic 235, 3) := by decide +kernel
theorem dX10_dayEnds_61 : decode cX10_dayEnds 61 = .ok (.iastore, 1) := by decide +kernel
theorem dX10_dayEnds_62 : decode cX10_dayEnds 62 = .ok (.aload_n 1, 1) := by decide +kernel
theorem dX10_dayEnds_63 : decode cX10_dayEnds 63 = .ok (.bipush 28, 2) := by decide +kernel
theorem dX10_dayEnds_65 : decode cX10_dayEnds 65 = .ok (.iload_n 2, 1) := by decide +kernel
theorem dX10_dayEnds_66 : decode cX10_dayEnds 66 = .ok (.iadd, 1) := by decide +kernel
theorem dX10_dayEnds_67 : decode cX10_dayEnds 67 = .ok (.iconst 0, 1) := by decide +kernel
theorem dX10_dayEnds_68 : decode cX10_dayEnds 68 = .ok (.iastore, 1) := by decide +kernel
theorem dX10_dayEnds_69 : decode cX10_dayEnds 69 = .ok (.iinc 2 1, 3) := by decide +kernel
theorem dX10_dayEnds_72 : decode cX10_dayEnds 72 = .ok (.goto (-65), 3) := by decide +kernel
theorem dX10_dayEnds_75 : decode cX10_dayEnds 75 = .ok (.aload_n 1, 1) := by decide +kernel
theorem dX10_dayEnds_76 : decode cX10_dayEnds 76 = .ok (.bipush 56, 2) := by decide +kernel
theorem dX10_dayEnds_78 : decode cX10_dayEnds 78 = .ok (.dup2, 1) := by decide +kernel
theorem dX10_dayEnds_79 : decode cX10_dayEnds 79 = .ok (.iaload, 1) := by decide +kernel
theorem dX10_dayEnds_80 : decode cX10_dayEnds 80 = .ok (.iconst 1, 1) := by decide +kernel
theorem dX10_dayEnds_81 : decode cX10_dayEnds 81 = .ok (.iadd, 1) := by decide +kernel
theorem dX10_dayEnds_82 : decode cX10_dayEnds 82 = .ok (.iastore, 1) := by decide +kernel
theorem dX10_dayEnds_83 : decode cX10_dayEnds 83 = .ok (.return_, 1) := by decide +kernel
theorem dX10_does_0 : decode cX10_does 0 = .ok (.aload_n 2, 1) := by decide +kernel
theorem dX10_does_1 : decode cX10_does 1 = .ok (.iconst 0, 1) := by decide +kernel
theorem dX10_does_2 : decode cX10_does 2 = .ok (.iaload, 1) := by decide +kernel
theorem dX10_does_3 : decode cX10_does 3 = .ok (.tableswitch 120 0 5 #[37, 46, 53, 59, 59, 82], 37) := by decide +kernel
theorem dX10_does_40 : decode cX10_does 40 = .ok (.aload_n 0, 1) := by decide +kernel
theorem dX10_does_41 : decode cX10_does 41 = .ok (.aload_n 1, 1) := by decide +kernel
theorem dX10_does_42 : decode cX10_does 42 = .ok (.aload_n 2, 1) := by decide +kernel
theorem dX10_does_43 : decode cX10_does 43 = .ok (.iconst 1, 1) := by decide +kernel
theorem dX10_does_44 : decode cX10_does 44 = .ok (.iaload, 1) := by decide +kernel
theorem dX10_does_45 : decode cX10_does 45 = .ok (.invokevirtual 276, 3) := by decide +kernel
theorem dX10_does_48 : decode cX10_does 48 = .ok (.ireturn, 1) := by decide +kernel
theorem dX10_does_49 : decode cX10_does 49 = .ok (.aload_n 0, 1) := by decide +kernel
theorem dX10_does_50 : decode cX10_does 50 = .ok (.aload_n 1, 1) := by decide +kernel
theorem dX10_does_51 : decode cX10_does 51 = .ok (.invokevirtual 280, 3) := by decide +kernel
theorem dX10_does_54 : decode cX10_does 54 = .ok (.iconst 1, 1) := by decide +kernel
theorem dX10_does_55 : decode cX10_does 55 = .ok (.ireturn, 1) := by decide +kernel
theorem dX10_does_56 : decode cX10_does 56 = .ok (.aload_n 0, 1) := by decide +kernel
theorem dX10_does_57 : decode cX10_does 57 = .ok (.aload_n 1, 1) := by decide +kernel
theorem dX10_does_58 : decode cX10_does 58 = .ok (.invokevirtual 283, 3) := by decide +kernel
theorem dX10_does_61 : decode cX10_does 61 = .ok (.ireturn, 1) := by decide +kernel
theorem dX10_does_62 : decode cX10_does 62 = .ok (.aload_n 1, 1) := by decide +kernel
theorem dX10_does_63 : decode cX10_does 63 = .ok (.bipush 7, 2) := by decide +kernel
theorem dX10_does_65 : decode cX10_does 65 = .ok (.aload_n 2, 1) := by decide +kernel
theorem dX10_does_66 : decode cX10_does 66 = .ok (.iconst 1, 1) := by decide +kernel
theorem dX10_does_67 : decode cX10_does 67 = .ok (.iaload, 1) := by decide +kernel
theorem dX10_does_68 : decode cX10_does 68 = .ok (.iadd, 1) := by decide +kernel
theorem dX10_does_69 : decode cX10_does 69 = .ok (.aload_n 2, 1) := by decide +kernel
theorem dX10_does_70 : decode cX10_does 70 = .ok (.iconst 0, 1) := by decide +kernel
theorem dX10_does_71 : decode cX10_does 71 = .ok (.iaload, 1) := by decide +kernel
theorem dX10_does_72 : decode cX10_does 72 = .ok (.iconst 3, 1) := by decide +kernel
theorem dX10_does_73 : decode cX10_does 73 = .ok (.if_icmp .ne 7, 3) := by decide +kernel
theorem dX10_does_76 : decode cX10_does 76 = .ok (.iconst 1, 1) := by decide +kernel
theorem dX10_does_77 : decode cX10_does 77 = .ok (.goto 4, 3) := by decide +kernel
theorem dX10_does_80 : decode cX10_does 80 = .ok (.iconst 0, 1) := by decide +kernel
theorem dX10_does_81 : decode cX10_does 81 = .ok (.invokestatic 287, 3) := by decide +kernel
theorem dX10_does_84 : decode cX10_does 84 = .ok (.ireturn, 1) := by decide +kernel
theorem dX10_does_85 : decode cX10_does 85 = .ok (.aload_n 0, 1) := by decide +kernel
theorem dX10_does_86 : decode cX10_does 86 = .ok (.aload_n 2, 1) := by decide +kernel
theorem dX10_does_87 : decode cX10_does 87 = .ok (.iconst 1, 1) := by decide +kernel
theorem dX10_does_88 : decode cX10_does 88 = .ok (.iaload, 1) := by decide +kernel
theorem dX10_does_89 : decode cX10_does 89 = .ok (.invokevirtual 291, 3) := by decide +kernel
theorem dX10_does_92 : decode cX10_does 92 = .ok (.aload_n 2, 1) := by decide +kernel
theorem dX10_does_93 : decode cX10_does 93 = .ok (.iconst 2, 1) := by decide +kernel
theorem dX10_does_94 : decode cX10_does 94 = .ok (.iaload, 1) := by decide +kernel
theorem dX10_does_95 : decode cX10_does 95 = .ok (.invokestatic 254, 3) := by decide +kernel
theorem dX10_does_98 : decode cX10_does 98 = .ok (.ifCond .eq 23, 3) := by decide +kernel
theorem dX10_does_101 : decode cX10_does 101 = .ok (.aload_n 1, 1) := by decide +kernel
theorem dX10_does_102 : decode cX10_does 102 = .ok (.bipush 35, 2) := by decide +kernel
theorem dX10_does_104 : decode cX10_does 104 = .ok (.aload_n 2, 1) := by decide +kernel
theorem dX10_does_105 : decode cX10_does 105 = .ok (.iconst 1, 1) := by decide +kernel
theorem dX10_does_106 : decode cX10_does 106 = .ok (.iaload, 1) := by decide +kernel
theorem dX10_does_107 : decode cX10_does 107 = .ok (.iadd, 1) := by decide +kernel
theorem dX10_does_108 : decode cX10_does 108 = .ok (.aload_n 2, 1) := by decide +kernel
theorem dX10_does_109 : decode cX10_does 109 = .ok (.iconst 2, 1) := by decide +kernel
theorem dX10_does_110 : decode cX10_does 110 = .ok (.iaload, 1) := by decide +kernel
theorem dX10_does_111 : decode cX10_does 111 = .ok (.invokestatic 287, 3) := by decide +kernel
theorem dX10_does_114 : decode cX10_does 114 = .ok (.ifCond .eq 7, 3) := by decide +kernel
theorem dX10_does_117 : decode cX10_does 117 = .ok (.iconst 1, 1) := by decide +kernel
theorem dX10_does_118 : decode cX10_does 118 = .ok (.goto 4, 3) := by decide +kernel
theorem dX10_does_121 : decode cX10_does 121 = .ok (.iconst 0, 1) := by decide +kernel
theorem dX10_does_122 : decode cX10_does 122 = .ok (.ireturn, 1) := by decide +kernel
theorem dX10_does_123 : decode cX10_does 123 = .ok (.aload_n 1, 1) := by decide +kernel
theorem dX10_does_124 : decode cX10_does 124 = .ok (.bipush 56, 2) := by decide +kernel
theorem dX10_does_126 : decode cX10_does 126 = .ok (.iaload, 1) := by decide +kernel
theorem dX10_does_127 : decode cX10_does 127 = .ok (.sipush 400, 3) := by decide +kernel
theorem dX10_does_130 : decode cX10_does 130 = .ok (.if_icmp .lt 5, 3) := by decide +kernel
theorem dX10_does_133 : decode cX10_does 133 = .ok (.iconst 0, 1) := by decide +kernel
theorem dX10_does_134 : decode cX10_does 134 = .ok (.ireturn, 1) := by decide +kernel
theorem dX10_does_135 : decode cX10_does 135 = .ok (.aload_n 0, 1) := by decide +kernel
theorem dX10_does_136 : decode cX10_does 136 = .ok (.aload_n 1, 1) := by decide +kernel
theorem dX10_does_137 : decode cX10_does 137 = .ok (.invokevirtual 294, 3) := by decide +kernel
theorem dX10_does_140 : decode cX10_does 140 = .ok (.iconst 1, 1) := by decide +kernel
theorem dX10_does_141 : decode cX10_does 141 = .ok (.ireturn, 1) := by decide +kernel
theorem dX10_goes_0 : decode cX10_goes 0 = .ok (.iload_n 1, 1) := by decide +kernel
theorem dX10_goes_1 : decode cX10_goes 1 = .ok (.istore_n 3, 1) := by decide +kernel
theorem dX10_goes_2 : decode cX10_goes 2 = .ok (.iload_n 3, 1) := by decide +kernel
theorem dX10_goes_3 : decode cX10_goes 3 = .ok (.iload_n 2, 1) := by decide +kernel
theorem dX10_goes_4 : decode cX10_goes 4 = .ok (.if_icmp .ge 152, 3) := by decide +kernel
theorem dX10_goes_7 : decode cX10_goes 7 = .ok (.aload_n 0, 1) := by decide +kernel
theorem dX10_goes_8 : decode cX10_goes 8 = .ok (.getfield 297, 3) := by decide +kernel
theorem dX10_goes_11 : decode cX10_goes 11 = .ok (.sipush 200, 3) := by decide +kernel
theorem dX10_goes_14 : decode cX10_goes 14 = .ok (.if_icmp .ge 142, 3) := by decide +kernel
theorem dX10_goes_17 : decode cX10_goes 17 = .ok (.aload_n 0, 1) := by decide +kernel
theorem dX10_goes_18 : decode cX10_goes 18 = .ok (.dup, 1) := by decide +kernel
theorem dX10_goes_19 : decode cX10_goes 19 = .ok (.getfield 297, 3) := by decide +kernel
theorem dX10_goes_22 : decode cX10_goes 22 = .ok (.iconst 1, 1) := by decide +kernel
theorem dX10_goes_23 : decode cX10_goes 23 = .ok (.iadd, 1) := by decide +kernel
theorem dX10_goes_24 : decode cX10_goes 24 = .ok (.putfield 297, 3) := by decide +kernel
theorem dX10_goes_27 : decode cX10_goes 27 = .ok (.aload_n 0, 1) := by decide +kernel
theorem dX10_goes_28 : decode cX10_goes 28 = .ok (.getfield 64, 3) := by decide +kernel
theorem dX10_goes_31 : decode cX10_goes 31 = .ok (.iload_n 3, 1) := by decide +kernel
theorem dX10_goes_32 : decode cX10_goes 32 = .ok (.aaload, 1) := by decide +kernel
theorem dX10_goes_33 : decode cX10_goes 33 = .ok (.iconst 0, 1) := by decide +kernel
theorem dX10_goes_34 : decode cX10_goes 34 = .ok (.iaload, 1) := by decide +kernel
theorem dX10_goes_35 : decode cX10_goes 35 = .ok (.bipush 7, 2) := by decide +kernel
theorem dX10_goes_37 : decode cX10_goes 37 = .ok (.if_icmp .ne 53, 3) := by decide +kernel
theorem dX10_goes_40 : decode cX10_goes 40 = .ok (.iconst 0, 1) := by decide +kernel
theorem dX10_goes_41 : decode cX10_goes 41 = .ok (.istore 4, 2) := by decide +kernel
theorem dX10_goes_43 : decode cX10_goes 43 = .ok (.iload 4, 2) := by decide +kernel
theorem dX10_goes_45 : decode cX10_goes 45 = .ok (.aload_n 0, 1) := by decide +kernel
theorem dX10_goes_46 : decode cX10_goes 46 = .ok (.getfield 64, 3) := by decide +kernel
theorem dX10_goes_49 : decode cX10_goes 49 = .ok (.iload_n 3, 1) := by decide +kernel
theorem dX10_goes_50 : decode cX10_goes 50 = .ok (.aaload, 1) := by decide +kernel
theorem dX10_goes_51 : decode cX10_goes 51 = .ok (.iconst 1, 1) := by decide +kernel
theorem dX10_goes_52 : decode cX10_goes 52 = .ok (.iaload, 1) := by decide +kernel
theorem dX10_goes_53 : decode cX10_goes 53 = .ok (.if_icmp .ge 34, 3) := by decide +kernel
theorem dX10_goes_56 : decode cX10_goes 56 = .ok (.aload_n 0, 1) := by decide +kernel
theorem dX10_goes_57 : decode cX10_goes 57 = .ok (.getfield 297, 3) := by decide +kernel
theorem dX10_goes_60 : decode cX10_goes 60 = .ok (.sipush 200, 3) := by decide +kernel
theorem dX10_goes_63 : decode cX10_goes 63 = .ok (.if_icmp .ge 24, 3) := by decide +kernel
theorem dX10_goes_66 : decode cX10_goes 66 = .ok (.aload_n 0, 1) := by decide +kernel
theorem dX10_goes_67 : decode cX10_goes 67 = .ok (.iload_n 3, 1) := by decide +kernel
theorem dX10_goes_68 : decode cX10_goes 68 = .ok (.iconst 1, 1) := by decide +kernel
theorem dX10_goes_69 : decode cX10_goes 69 = .ok (.iadd, 1) := by decide +kernel
theorem dX10_goes_70 : decode cX10_goes 70 = .ok (.aload_n 0, 1) := by decide +kernel
theorem dX10_goes_71 : decode cX10_goes 71 = .ok (.getfield 64, 3) := by decide +kernel
theorem dX10_goes_74 : decode cX10_goes 74 = .ok (.iload_n 3, 1) := by decide +kernel
theorem dX10_goes_75 : decode cX10_goes 75 = .ok (.aaload, 1) := by decide +kernel
theorem dX10_goes_76 : decode cX10_goes 76 = .ok (.iconst 3, 1) := by decide +kernel
theorem dX10_goes_77 : decode cX10_goes 77 = .ok (.iaload, 1) := by decide +kernel
theorem dX10_goes_78 : decode cX10_goes 78 = .ok (.invokevirtual 300, 3) := by decide +kernel
theorem dX10_goes_81 : decode cX10_goes 81 = .ok (.iinc 4 1, 3) := by decide +kernel
theorem dX10_goes_84 : decode cX10_goes 84 = .ok (.goto (-41), 3) := by decide +kernel
theorem dX10_goes_87 : decode cX10_goes 87 = .ok (.goto 57, 3) := by decide +kernel
theorem dX10_goes_90 : decode cX10_goes 90 = .ok (.aload_n 0, 1) := by decide +kernel
theorem dX10_goes_91 : decode cX10_goes 91 = .ok (.aload_n 0, 1) := by decide +kernel
theorem dX10_goes_92 : decode cX10_goes 92 = .ok (.getfield 67, 3) := by decide +kernel
theorem dX10_goes_95 : decode cX10_goes 95 = .ok (.aload_n 0, 1) := by decide +kernel
theorem dX10_goes_96 : decode cX10_goes 96 = .ok (.getfield 64, 3) := by decide +kernel
theorem dX10_goes_99 : decode cX10_goes 99 = .ok (.iload_n 3, 1) := by decide +kernel
theorem dX10_goes_100 : decode cX10_goes 100 = .ok (.aaload, 1) := by decide +kernel
theorem dX10_goes_101 : decode cX10_goes 101 = .ok (.invokevirtual 303, 3) := by decide +kernel
theorem dX10_goes_104 : decode cX10_goes 104 = .ok (.istore 4, 2) := by decide +kernel
theorem dX10_goes_106 : decode cX10_goes 106 = .ok (.aload_n 0, 1) := by decide +kernel
theorem dX10_goes_107 : decode cX10_goes 107 = .ok (.dup, 1) := by decide +kernel
theorem dX10_goes_108 : decode cX10_goes 108 = .ok (.getfield 307, 3) := by decide +kernel
theorem dX10_goes_111 : decode cX10_goes 111 = .ok (.iload 4, 2) := by decide +kernel
theorem dX10_goes_113 : decode cX10_goes 113 = .ok (.ifCond .eq 7, 3) := by decide +kernel
theorem dX10_goes_116 : decode cX10_goes 116 = .ok (.iconst 1, 1) := by decide +kernel
theorem dX10_goes_117 : decode cX10_goes 117 = .ok (.goto 4, 3) := by decide +kernel
theorem dX10_goes_120 : decode cX10_goes 120 = .ok (.iconst 0, 1) := by decide +kernel
theorem dX10_goes_121 : decode cX10_goes 121 = .ok (.iadd, 1) := by decide +kernel
theorem dX10_goes_122 : decode cX10_goes 122 = .ok (.putfield 307, 3) := by decide +kernel
theorem dX10_goes_125 : decode cX10_goes 125 = .ok (.aload_n 0, 1) := by decide +kernel
theorem dX10_goes_126 : decode cX10_goes 126 = .ok (.dup, 1) := by decide +kernel
theorem dX10_goes_127 : decode cX10_goes 127 = .ok (.getfield 201, 3) := by decide +kernel
theorem dX10_goes_130 : decode cX10_goes 130 = .ok (.iload 4, 2) := by decide +kernel
theorem dX10_goes_132 : decode cX10_goes 132 = .ok (.ifCond .eq 7, 3) := by decide +kernel
theorem dX10_goes_135 : decode cX10_goes 135 = .ok (.iconst 0, 1) := by decide +kernel
theorem dX10_goes_136 : decode cX10_goes 136 = .ok (.goto 4, 3) := by decide +kernel
theorem dX10_goes_139 : decode cX10_goes 139 = .ok (.iconst 1, 1) := by decide +kernel
theorem dX10_goes_140 : decode cX10_goes 140 = .ok (.iadd, 1) := by decide +kernel
theorem dX10_goes_141 : decode cX10_goes 141 = .ok (.putfield 201, 3) := by decide +kernel
theorem dX10_goes_144 : decode cX10_goes 144 = .ok (.aload_n 0, 1) := by decide +kernel
theorem dX10_goes_145 : decode cX10_goes 145 = .ok (.getfield 64, 3) := by decide +kernel
theorem dX10_goes_148 : decode cX10_goes 148 = .ok (.iload_n 3, 1) := by decide +kernel
theorem dX10_goes_149 : decode cX10_goes 149 = .ok (.aaload, 1) := by decide +kernel
theorem dX10_goes_150 : decode cX10_goes 150 = .ok (.iconst 3, 1) := by decide +kernel
theorem dX10_goes_151 : decode cX10_goes 151 = .ok (.iaload, 1) := by decide +kernel
theorem dX10_goes_152 : decode cX10_goes 152 = .ok (.istore_n 3, 1) := by decide +kernel
theorem dX10_goes_153 : decode cX10_goes 153 = .ok (.goto (-151), 3) := by decide +kernel
theorem dX10_goes_156 : decode cX10_goes 156 = .ok (.return_, 1) := by decide +kernel
theorem dX10_work_0 : decode cX10_work 0 = .ok (.aload_n 0, 1) := by decide +kernel
theorem dX10_work_1 : decode cX10_work 1 = .ok (.iconst 0, 1) := by decide +kernel
theorem dX10_work_2 : decode cX10_work 2 = .ok (.putfield 95, 3) := by decide +kernel
theorem dX10_work_5 : decode cX10_work 5 = .ok (.aload_n 0, 1) := by decide +kernel
theorem dX10_work_6 : decode cX10_work 6 = .ok (.iload_n 1, 1) := by decide +kernel
theorem dX10_work_7 : decode cX10_work 7 = .ok (.iconst 0, 1) := by decide +kernel
theorem dX10_work_8 : decode cX10_work 8 = .ok (.aload_n 0, 1) := by decide +kernel
theorem dX10_work_9 : decode cX10_work 9 = .ok (.getfield 98, 3) := by decide +kernel
theorem dX10_work_12 : decode cX10_work 12 = .ok (.invokestatic 129, 3) := by decide +kernel
theorem dX10_work_15 : decode cX10_work 15 = .ok (.ifCond .eq 10, 3) := by decide +kernel
theorem dX10_work_18 : decode cX10_work 18 = .ok (.iload_n 1, 1) := by decide +kernel
theorem dX10_work_19 : decode cX10_work 19 = .ok (.sipush 150, 3) := by decide +kernel
theorem dX10_work_22 : decode cX10_work 22 = .ok (.if_icmp .le 7, 3) := by decide +kernel
theorem dX10_work_25 : decode cX10_work 25 = .ok (.iconst 1, 1) := by decide +kernel
theorem dX10_work_26 : decode cX10_work 26 = .ok (.goto 4, 3) := by decide +kernel
theorem dX10_work_29 : decode cX10_work 29 = .ok (.iconst 0, 1) := by decide +kernel
theorem dX10_work_30 : decode cX10_work 30 = .ok (.iconst 1, 1) := by decide +kernel
theorem dX10_work_31 : decode cX10_work 31 = .ok (.iconst 1, 1) := by decide +kernel
theorem dX10_work_32 : decode cX10_work 32 = .ok (.invokevirtual 171, 3) := by decide +kernel
theorem dX10_work_35 : decode cX10_work 35 = .ok (.ifCond .eq 5, 3) := by decide +kernel
theorem dX10_work_38 : decode cX10_work 38 = .ok (.iconst 0, 1) := by decide +kernel
theorem dX10_work_39 : decode cX10_work 39 = .ok (.ireturn, 1) := by decide +kernel
theorem dX10_work_40 : decode cX10_work 40 = .ok (.aload_n 0, 1) := by decide +kernel
theorem dX10_work_41 : decode cX10_work 41 = .ok (.getfield 198, 3) := by decide +kernel
theorem dX10_work_44 : decode cX10_work 44 = .ok (.bipush 16, 2) := by decide +kernel
theorem dX10_work_46 : decode cX10_work 46 = .ok (.if_icmp .ne 16, 3) := by decide +kernel
theorem dX10_work_49 : decode cX10_work 49 = .ok (.aload_n 0, 1) := by decide +kernel
theorem dX10_work_50 : decode cX10_work 50 = .ok (.iconst 0, 1) := by decide +kernel
theorem dX10_work_51 : decode cX10_work 51 = .ok (.putfield 98, 3) := by decide +kernel
theorem dX10_work_54 : decode cX10_work 54 = .ok (.aload_n 0, 1) := by decide +kernel
theorem dX10_work_55 : decode cX10_work 55 = .ok (.iconst (-1), 1) := by decide +kernel
theorem dX10_work_56 : decode cX10_work 56 = .ok (.putfield 9, 3) := by decide +kernel
theorem dX10_work_59 : decode cX10_work 59 = .ok (.bipush (-20), 2) := by decide +kernel
theorem dX10_work_61 : decode cX10_work 61 = .ok (.ireturn, 1) := by decide +kernel
theorem dX10_work_62 : decode cX10_work 62 = .ok (.aload_n 0, 1) := by decide +kernel
theorem dX10_work_63 : decode cX10_work 63 = .ok (.iload_n 1, 1) := by decide +kernel
theorem dX10_work_64 : decode cX10_work 64 = .ok (.invokevirtual 175, 3) := by decide +kernel
theorem dX10_work_67 : decode cX10_work 67 = .ok (.aload_n 0, 1) := by decide +kernel
theorem dX10_work_68 : decode cX10_work 68 = .ok (.iconst 0, 1) := by decide +kernel
theorem dX10_work_69 : decode cX10_work 69 = .ok (.putfield 248, 3) := by decide +kernel
theorem dX10_work_72 : decode cX10_work 72 = .ok (.aload_n 0, 1) := by decide +kernel
theorem dX10_work_73 : decode cX10_work 73 = .ok (.getfield 111, 3) := by decide +kernel
theorem dX10_work_76 : decode cX10_work 76 = .ok (.ifCond .ne 25, 3) := by decide +kernel
theorem dX10_work_79 : decode cX10_work 79 = .ok (.aload_n 0, 1) := by decide +kernel
theorem dX10_work_80 : decode cX10_work 80 = .ok (.getfield 104, 3) := by decide +kernel
theorem dX10_work_83 : decode cX10_work 83 = .ok (.aload_n 0, 1) := by decide +kernel
theorem dX10_work_84 : decode cX10_work 84 = .ok (.getfield 101, 3) := by decide +kernel
theorem dX10_work_87 : decode cX10_work 87 = .ok (.if_icmp .ge 14, 3) := by decide +kernel
theorem dX10_work_90 : decode cX10_work 90 = .ok (.aload_n 0, 1) := by decide +kernel
theorem dX10_work_91 : decode cX10_work 91 = .ok (.invokevirtual 251, 3) := by decide +kernel
theorem dX10_work_94 : decode cX10_work 94 = .ok (.aload_n 0, 1) := by decide +kernel
theorem dX10_work_95 : decode cX10_work 95 = .ok (.invokevirtual 117, 3) := by decide +kernel
theorem dX10_work_98 : decode cX10_work 98 = .ok (.goto (-26), 3) := by decide +kernel
theorem dX10_work_101 : decode cX10_work 101 = .ok (.aload_n 0, 1) := by decide +kernel
theorem dX10_work_102 : decode cX10_work 102 = .ok (.getfield 111, 3) := by decide +kernel
theorem dX10_work_105 : decode cX10_work 105 = .ok (.ifCond .eq 8, 3) := by decide +kernel
theorem dX10_work_108 : decode cX10_work 108 = .ok (.aload_n 0, 1) := by decide +kernel
theorem dX10_work_109 : decode cX10_work 109 = .ok (.invokevirtual 181, 3) := by decide +kernel
theorem dX10_work_112 : decode cX10_work 112 = .ok (.ireturn, 1) := by decide +kernel
theorem dX10_work_113 : decode cX10_work 113 = .ok (.aload_n 0, 1) := by decide +kernel
theorem dX10_work_114 : decode cX10_work 114 = .ok (.iconst (-1), 1) := by decide +kernel
theorem dX10_work_115 : decode cX10_work 115 = .ok (.putfield 9, 3) := by decide +kernel
theorem dX10_work_118 : decode cX10_work 118 = .ok (.aload_n 0, 1) := by decide +kernel
theorem dX10_work_119 : decode cX10_work 119 = .ok (.getfield 67, 3) := by decide +kernel
theorem dX10_work_122 : decode cX10_work 122 = .ok (.aload_n 0, 1) := by decide +kernel
theorem dX10_work_123 : decode cX10_work 123 = .ok (.getfield 73, 3) := by decide +kernel
theorem dX10_work_126 : decode cX10_work 126 = .ok (.aload_n 0, 1) := by decide +kernel
theorem dX10_work_127 : decode cX10_work 127 = .ok (.getfield 198, 3) := by decide +kernel
theorem dX10_work_130 : decode cX10_work 130 = .ok (.aaload, 1) := by decide +kernel
theorem dX10_work_131 : decode cX10_work 131 = .ok (.invokestatic 310, 3) := by decide +kernel
theorem dX10_work_134 : decode cX10_work 134 = .ok (.aload_n 0, 1) := by decide +kernel
theorem dX10_work_135 : decode cX10_work 135 = .ok (.dup, 1) := by decide +kernel
theorem dX10_work_136 : decode cX10_work 136 = .ok (.getfield 198, 3) := by decide +kernel
theorem dX10_work_139 : decode cX10_work 139 = .ok (.iconst 1, 1) := by decide +kernel
theorem dX10_work_140 : decode cX10_work 140 = .ok (.iadd, 1) := by decide +kernel
theorem dX10_work_141 : decode cX10_work 141 = .ok (.putfield 198, 3) := by decide +kernel
theorem dX10_work_144 : decode cX10_work 144 = .ok (.aload_n 0, 1) := by decide +kernel
theorem dX10_work_145 : decode cX10_work 145 = .ok (.iconst 0, 1) := by decide +kernel
theorem dX10_work_146 : decode cX10_work 146 = .ok (.putfield 297, 3) := by decide +kernel
theorem dX10_work_149 : decode cX10_work 149 = .ok (.aload_n 0, 1) := by decide +kernel
theorem dX10_work_150 : decode cX10_work 150 = .ok (.iconst 0, 1) := by decide +kernel
theorem dX10_work_151 : decode cX10_work 151 = .ok (.putfield 307, 3) := by decide +kernel
theorem dX10_work_154 : decode cX10_work 154 = .ok (.aload_n 0, 1) := by decide +kernel
theorem dX10_work_155 : decode cX10_work 155 = .ok (.iconst 0, 1) := by decide +kernel
theorem dX10_work_156 : decode cX10_work 156 = .ok (.putfield 201, 3) := by decide +kernel
theorem dX10_work_159 : decode cX10_work 159 = .ok (.aload_n 0, 1) := by decide +kernel
theorem dX10_work_160 : decode cX10_work 160 = .ok (.iconst 0, 1) := by decide +kernel
theorem dX10_work_161 : decode cX10_work 161 = .ok (.aload_n 0, 1) := by decide +kernel
theorem dX10_work_162 : decode cX10_work 162 = .ok (.getfield 248, 3) := by decide +kernel
theorem dX10_work_165 : decode cX10_work 165 = .ok (.invokevirtual 300, 3) := by decide +kernel
theorem dX10_work_168 : decode cX10_work 168 = .ok (.aload_n 0, 1) := by decide +kernel
theorem dX10_work_169 : decode cX10_work 169 = .ok (.getfield 307, 3) := by decide +kernel
theorem dX10_work_172 : decode cX10_work 172 = .ok (.ireturn, 1) := by decide +kernel
theorem dX10_undo_0 : decode cX10_undo 0 = .ok (.aload_n 0, 1) := by decide +kernel
theorem dX10_undo_1 : decode cX10_undo 1 = .ok (.iconst 0, 1) := by decide +kernel
theorem dX10_undo_2 : decode cX10_undo 2 = .ok (.putfield 95, 3) := by decide +kernel
theorem dX10_undo_5 : decode cX10_undo 5 = .ok (.aload_n 0, 1) := by decide +kernel
theorem dX10_undo_6 : decode cX10_undo 6 = .ok (.getfield 198, 3) := by decide +kernel
theorem dX10_undo_9 : decode cX10_undo 9 = .ok (.ifCond .ne 5, 3) := by decide +kernel
theorem dX10_undo_12 : decode cX10_undo 12 = .ok (.iconst (-1), 1) := by decide +kernel
theorem dX10_undo_13 : decode cX10_undo 13 = .ok (.ireturn, 1) := by decide +kernel
theorem dX10_undo_14 : decode cX10_undo 14 = .ok (.aload_n 0, 1) := by decide +kernel
theorem dX10_undo_15 : decode cX10_undo 15 = .ok (.dup, 1) := by decide +kernel
theorem dX10_undo_16 : decode cX10_undo 16 = .ok (.getfield 198, 3) := by decide +kernel
theorem dX10_undo_19 : decode cX10_undo 19 = .ok (.iconst 1, 1) := by decide +kernel
theorem dX10_undo_20 : decode cX10_undo 20 = .ok (.isub, 1) := by decide +kernel
theorem dX10_undo_21 : decode cX10_undo 21 = .ok (.putfield 198, 3) := by decide +kernel
theorem dX10_undo_24 : decode cX10_undo 24 = .ok (.aload_n 0, 1) := by decide +kernel
theorem dX10_undo_25 : decode cX10_undo 25 = .ok (.getfield 73, 3) := by decide +kernel
theorem dX10_undo_28 : decode cX10_undo 28 = .ok (.aload_n 0, 1) := by decide +kernel
theorem dX10_undo_29 : decode cX10_undo 29 = .ok (.getfield 198, 3) := by decide +kernel
theorem dX10_undo_32 : decode cX10_undo 32 = .ok (.aaload, 1) := by decide +kernel
theorem dX10_undo_33 : decode cX10_undo 33 = .ok (.aload_n 0, 1) := by decide +kernel
theorem dX10_undo_34 : decode cX10_undo 34 = .ok (.getfield 67, 3) := by decide +kernel
theorem dX10_undo_37 : decode cX10_undo 37 = .ok (.invokestatic 310, 3) := by decide +kernel
theorem dX10_undo_40 : decode cX10_undo 40 = .ok (.aload_n 0, 1) := by decide +kernel
theorem dX10_undo_41 : decode cX10_undo 41 = .ok (.iconst 0, 1) := by decide +kernel
theorem dX10_undo_42 : decode cX10_undo 42 = .ok (.putfield 201, 3) := by decide +kernel
theorem dX10_undo_45 : decode cX10_undo 45 = .ok (.aload_n 0, 1) := by decide +kernel
theorem dX10_undo_46 : decode cX10_undo 46 = .ok (.getfield 198, 3) := by decide +kernel
theorem dX10_undo_49 : decode cX10_undo 49 = .ok (.ireturn, 1) := by decide +kernel
theorem dX10_all_0 : decode cX10_all 0 = .ok (.iconst 0, 1) := by decide +kernel
theorem dX10_all_1 : decode cX10_all 1 = .ok (.istore_n 3, 1) := by decide +kernel
theorem dX10_all_2 : decode cX10_all 2 = .ok (.iconst 0, 1) := by decide +kernel
theorem dX10_all_3 : decode cX10_all 3 = .ok (.istore 4, 2) := by decide +kernel
theorem dX10_all_5 : decode cX10_all 5 = .ok (.iload 4, 2) := by decide +kernel
theorem dX10_all_7 : decode cX10_all 7 = .ok (.aload_n 0, 1) := by decide +kernel
theorem dX10_all_8 : decode cX10_all 8 = .ok (.getfield 23, 3) := by decide +kernel
theorem dX10_all_11 : decode cX10_all 11 = .ok (.iconst 0, 1) := by decide +kernel
theorem dX10_all_12 : decode cX10_all 12 = .ok (.iaload, 1) := by decide +kernel
theorem dX10_all_13 : decode cX10_all 13 = .ok (.if_icmp .ge 18, 3) := by decide +kernel
theorem dX10_all_16 : decode cX10_all 16 = .ok (.iload_n 3, 1) := by decide +kernel
theorem dX10_all_17 : decode cX10_all 17 = .ok (.aload_n 1, 1) := by decide +kernel
theorem dX10_all_18 : decode cX10_all 18 = .ok (.iload_n 2, 1) := by decide +kernel
theorem dX10_all_19 : decode cX10_all 19 = .ok (.iload 4, 2) := by decide +kernel
theorem dX10_all_21 : decode cX10_all 21 = .ok (.iadd, 1) := by decide +kernel
theorem dX10_all_22 : decode cX10_all 22 = .ok (.iaload, 1) := by decide +kernel
theorem dX10_all_23 : decode cX10_all 23 = .ok (.iadd, 1) := by decide +kernel
theorem dX10_all_24 : decode cX10_all 24 = .ok (.istore_n 3, 1) := by decide +kernel
theorem dX10_all_25 : decode cX10_all 25 = .ok (.iinc 4 1, 3) := by decide +kernel
theorem dX10_all_28 : decode cX10_all 28 = .ok (.goto (-23), 3) := by decide +kernel
theorem dX10_all_31 : decode cX10_all 31 = .ok (.iload_n 3, 1) := by decide +kernel
theorem dX10_all_32 : decode cX10_all 32 = .ok (.ireturn, 1) := by decide +kernel
theorem dX10_hoarse_0 : decode cX10_hoarse 0 = .ok (.iconst 0, 1) := by decide +kernel
theorem dX10_hoarse_1 : decode cX10_hoarse 1 = .ok (.istore_n 2, 1) := by decide +kernel
theorem dX10_hoarse_2 : decode cX10_hoarse 2 = .ok (.iconst 0, 1) := by decide +kernel
theorem dX10_hoarse_3 : decode cX10_hoarse 3 = .ok (.istore_n 3, 1) := by decide +kernel
theorem dX10_hoarse_4 : decode cX10_hoarse 4 = .ok (.iload_n 3, 1) := by decide +kernel
theorem dX10_hoarse_5 : decode cX10_hoarse 5 = .ok (.aload_n 0, 1) := by decide +kernel
theorem dX10_hoarse_6 : decode cX10_hoarse 6 = .ok (.getfield 23, 3) := by decide +kernel
theorem dX10_hoarse_9 : decode cX10_hoarse 9 = .ok (.iconst 0, 1) := by decide +kernel
theorem dX10_hoarse_10 : decode cX10_hoarse 10 = .ok (.iaload, 1) := by decide +kernel
theorem dX10_hoarse_11 : decode cX10_hoarse 11 = .ok (.if_icmp .ge 20, 3) := by decide +kernel
theorem dX10_hoarse_14 : decode cX10_hoarse 14 = .ok (.iload_n 2, 1) := by decide +kernel
theorem dX10_hoarse_15 : decode cX10_hoarse 15 = .ok (.aload_n 1, 1) := by decide +kernel
theorem dX10_hoarse_16 : decode cX10_hoarse 16 = .ok (.bipush 7, 2) := by decide +kernel
theorem dX10_hoarse_18 : decode cX10_hoarse 18 = .ok (.iload_n 3, 1) := by decide +kernel
theorem dX10_hoarse_19 : decode cX10_hoarse 19 = .ok (.iadd, 1) := by decide +kernel
theorem dX10_hoarse_20 : decode cX10_hoarse 20 = .ok (.iaload, 1) := by decide +kernel
theorem dX10_hoarse_21 : decode cX10_hoarse 21 = .ok (.iload_n 3, 1) := by decide +kernel
theorem dX10_hoarse_22 : decode cX10_hoarse 22 = .ok (.ishl, 1) := by decide +kernel
theorem dX10_hoarse_23 : decode cX10_hoarse 23 = .ok (.ior, 1) := by decide +kernel
theorem dX10_hoarse_24 : decode cX10_hoarse 24 = .ok (.istore_n 2, 1) := by decide +kernel
theorem dX10_hoarse_25 : decode cX10_hoarse 25 = .ok (.iinc 3 1, 3) := by decide +kernel
theorem dX10_hoarse_28 : decode cX10_hoarse 28 = .ok (.goto (-24), 3) := by decide +kernel
theorem dX10_hoarse_31 : decode cX10_hoarse 31 = .ok (.iload_n 2, 1) := by decide +kernel
theorem dX10_hoarse_32 : decode cX10_hoarse 32 = .ok (.ireturn, 1) := by decide +kernel
theorem dX10_told_0 : decode cX10_told 0 = .ok (.aload_n 0, 1) := by decide +kernel
theorem dX10_told_1 : decode cX10_told 1 = .ok (.iconst 0, 1) := by decide +kernel
theorem dX10_told_2 : decode cX10_told 2 = .ok (.putfield 95, 3) := by decide +kernel
theorem dX10_told_5 : decode cX10_told 5 = .ok (.aload_n 0, 1) := by decide +kernel
theorem dX10_told_6 : decode cX10_told 6 = .ok (.iload_n 1, 1) := by decide +kernel
theorem dX10_told_7 : decode cX10_told 7 = .ok (.iconst 0, 1) := by decide +kernel
theorem dX10_told_8 : decode cX10_told 8 = .ok (.bipush 11, 2) := by decide +kernel
theorem dX10_told_10 : decode cX10_told 10 = .ok (.invokestatic 129, 3) := by decide +kernel
theorem dX10_told_13 : decode cX10_told 13 = .ok (.ifCond .ne 7, 3) := by decide +kernel
theorem dX10_told_16 : decode cX10_told 16 = .ok (.iconst 1, 1) := by decide +kernel
theorem dX10_told_17 : decode cX10_told 17 = .ok (.goto 4, 3) := by decide +kernel
theorem dX10_told_20 : decode cX10_told 20 = .ok (.iconst 0, 1) := by decide +kernel
theorem dX10_told_21 : decode cX10_told 21 = .ok (.iconst 1, 1) := by decide +kernel
theorem dX10_told_22 : decode cX10_told 22 = .ok (.iconst 1, 1) := by decide +kernel
theorem dX10_told_23 : decode cX10_told 23 = .ok (.invokevirtual 171, 3) := by decide +kernel
theorem dX10_told_26 : decode cX10_told 26 = .ok (.ifCond .eq 5, 3) := by decide +kernel
theorem dX10_told_29 : decode cX10_told 29 = .ok (.iconst 0, 1) := by decide +kernel
theorem dX10_told_30 : decode cX10_told 30 = .ok (.ireturn, 1) := by decide +kernel
theorem dX10_told_31 : decode cX10_told 31 = .ok (.iconst 0, 1) := by decide +kernel
theorem dX10_told_32 : decode cX10_told 32 = .ok (.istore_n 2, 1) := by decide +kernel
theorem dX10_told_33 : decode cX10_told 33 = .ok (.iconst 0, 1) := by decide +kernel
theorem dX10_told_34 : decode cX10_told 34 = .ok (.istore_n 3, 1) := by decide +kernel
theorem dX10_told_35 : decode cX10_told 35 = .ok (.iload_n 3, 1) := by decide +kernel
theorem dX10_told_36 : decode cX10_told 36 = .ok (.aload_n 0, 1) := by decide +kernel
theorem dX10_told_37 : decode cX10_told 37 = .ok (.getfield 23, 3) := by decide +kernel
theorem dX10_told_40 : decode cX10_told 40 = .ok (.iconst 1, 1) := by decide +kernel
theorem dX10_told_41 : decode cX10_told 41 = .ok (.iaload, 1) := by decide +kernel
theorem dX10_told_42 : decode cX10_told 42 = .ok (.if_icmp .ge 39, 3) := by decide +kernel
theorem dX10_told_45 : decode cX10_told 45 = .ok (.iload_n 2, 1) := by decide +kernel
theorem dX10_told_46 : decode cX10_told 46 = .ok (.aload_n 0, 1) := by decide +kernel
theorem dX10_told_47 : decode cX10_told 47 = .ok (.getfield 67, 3) := by decide +kernel
theorem dX10_told_50 : decode cX10_told 50 = .ok (.bipush 35, 2) := by decide +kernel
theorem dX10_told_52 : decode cX10_told 52 = .ok (.iload_n 3, 1) := by decide +kernel
theorem dX10_told_53 : decode cX10_told 53 = .ok (.iadd, 1) := by decide +kernel
theorem dX10_told_54 : decode cX10_told 54 = .ok (.iaload, 1) := by decide +kernel
theorem dX10_told_55 : decode cX10_told 55 = .ok (.aload_n 0, 1) := by decide +kernel
theorem dX10_told_56 : decode cX10_told 56 = .ok (.getfield 37, 3) := by decide +kernel
theorem dX10_told_59 : decode cX10_told 59 = .ok (.iload_n 3, 1) := by decide +kernel
theorem dX10_told_60 : decode cX10_told 60 = .ok (.aaload, 1) := by decide +kernel
theorem dX10_told_61 : decode cX10_told 61 = .ok (.iconst 0, 1) := by decide +kernel
theorem dX10_told_62 : decode cX10_told 62 = .ok (.iaload, 1) := by decide +kernel
theorem dX10_told_63 : decode cX10_told 63 = .ok (.if_icmp .ne 7, 3) := by decide +kernel
theorem dX10_told_66 : decode cX10_told 66 = .ok (.iconst 0, 1) := by decide +kernel
theorem dX10_told_67 : decode cX10_told 67 = .ok (.goto 6, 3) := by decide +kernel
theorem dX10_told_70 : decode cX10_told 70 = .ok (.iconst 1, 1) := by decide +kernel
theorem dX10_told_71 : decode cX10_told 71 = .ok (.iload_n 3, 1) := by decide +kernel
theorem dX10_told_72 : decode cX10_told 72 = .ok (.ishl, 1) := by decide +kernel
theorem dX10_told_73 : decode cX10_told 73 = .ok (.ior, 1) := by decide +kernel
theorem dX10_told_74 : decode cX10_told 74 = .ok (.istore_n 2, 1) := by decide +kernel
theorem dX10_told_75 : decode cX10_told 75 = .ok (.iinc 3 1, 3) := by decide +kernel
theorem dX10_told_78 : decode cX10_told 78 = .ok (.goto (-43), 3) := by decide +kernel
theorem dX10_told_81 : decode cX10_told 81 = .ok (.iload_n 1, 1) := by decide +kernel
theorem dX10_told_82 : decode cX10_told 82 = .ok (.tableswitch 132 0 10 #[58, 58, 58, 65, 73, 82, 90, 101, 112, 122, 127], 58) := by decide +kernel
theorem dX10_told_140 : decode cX10_told 140 = .ok (.aload_n 0, 1) := by decide +kernel
theorem dX10_told_141 : decode cX10_told 141 = .ok (.getfield 23, 3) := by decide +kernel
theorem dX10_told_144 : decode cX10_told 144 = .ok (.iload_n 1, 1) := by decide +kernel
theorem dX10_told_145 : decode cX10_told 145 = .ok (.iaload, 1) := by decide +kernel
theorem dX10_told_146 : decode cX10_told 146 = .ok (.ireturn, 1) := by decide +kernel
theorem dX10_told_147 : decode cX10_told 147 = .ok (.aload_n 0, 1) := by decide +kernel
theorem dX10_told_148 : decode cX10_told 148 = .ok (.getfield 67, 3) := by decide +kernel
theorem dX10_told_151 : decode cX10_told 151 = .ok (.bipush 56, 2) := by decide +kernel
theorem dX10_told_153 : decode cX10_told 153 = .ok (.iaload, 1) := by decide +kernel
theorem dX10_told_154 : decode cX10_told 154 = .ok (.ireturn, 1) := by decide +kernel
theorem dX10_told_155 : decode cX10_told 155 = .ok (.aload_n 0, 1) := by decide +kernel
theorem dX10_told_156 : decode cX10_told 156 = .ok (.aload_n 0, 1) := by decide +kernel
theorem dX10_told_157 : decode cX10_told 157 = .ok (.getfield 67, 3) := by decide +kernel
theorem dX10_told_160 : decode cX10_told 160 = .ok (.invokevirtual 314, 3) := by decide +kernel
theorem dX10_told_163 : decode cX10_told 163 = .ok (.ireturn, 1) := by decide +kernel
theorem dX10_told_164 : decode cX10_told 164 = .ok (.aload_n 0, 1) := by decide +kernel
theorem dX10_told_165 : decode cX10_told 165 = .ok (.getfield 67, 3) := by decide +kernel
theorem dX10_told_168 : decode cX10_told 168 = .ok (.bipush 55, 2) := by decide +kernel
theorem dX10_told_170 : decode cX10_told 170 = .ok (.iaload, 1) := by decide +kernel
theorem dX10_told_171 : decode cX10_told 171 = .ok (.ireturn, 1) := by decide +kernel
theorem dX10_told_172 : decode cX10_told 172 = .ok (.aload_n 0, 1) := by decide +kernel
theorem dX10_told_173 : decode cX10_told 173 = .ok (.aload_n 0, 1) := by decide +kernel
theorem dX10_told_174 : decode cX10_told 174 = .ok (.getfield 67, 3) := by decide +kernel
theorem dX10_told_177 : decode cX10_told 177 = .ok (.bipush 14, 2) := by decide +kernel
theorem dX10_told_179 : decode cX10_told 179 = .ok (.invokevirtual 318, 3) := by decide +kernel
theorem dX10_told_182 : decode cX10_told 182 = .ok (.ireturn, 1) := by decide +kernel
theorem dX10_told_183 : decode cX10_told 183 = .ok (.aload_n 0, 1) := by decide +kernel
theorem dX10_told_184 : decode cX10_told 184 = .ok (.aload_n 0, 1) := by decide +kernel
theorem dX10_told_185 : decode cX10_told 185 = .ok (.getfield 67, 3) := by decide +kernel
theorem dX10_told_188 : decode cX10_told 188 = .ok (.bipush 21, 2) := by decide +kernel
theorem dX10_told_190 : decode cX10_told 190 = .ok (.invokevirtual 318, 3) := by decide +kernel
theorem dX10_told_193 : decode cX10_told 193 = .ok (.ireturn, 1) := by decide +kernel
theorem dX10_told_194 : decode cX10_told 194 = .ok (.aload_n 0, 1) := by decide +kernel
theorem dX10_told_195 : decode cX10_told 195 = .ok (.aload_n 0, 1) := by decide +kernel
theorem dX10_told_196 : decode cX10_told 196 = .ok (.getfield 67, 3) := by decide +kernel
theorem dX10_told_199 : decode cX10_told 199 = .ok (.iconst 0, 1) := by decide +kernel
theorem dX10_told_200 : decode cX10_told 200 = .ok (.invokevirtual 318, 3) := by decide +kernel
theorem dX10_told_203 : decode cX10_told 203 = .ok (.ireturn, 1) := by decide +kernel
theorem dX10_told_204 : decode cX10_told 204 = .ok (.aload_n 0, 1) := by decide +kernel
theorem dX10_told_205 : decode cX10_told 205 = .ok (.getfield 195, 3) := by decide +kernel
theorem dX10_told_208 : decode cX10_told 208 = .ok (.ireturn, 1) := by decide +kernel
theorem dX10_told_209 : decode cX10_told 209 = .ok (.aload_n 0, 1) := by decide +kernel
theorem dX10_told_210 : decode cX10_told 210 = .ok (.getfield 201, 3) := by decide +kernel
theorem dX10_told_213 : decode cX10_told 213 = .ok (.ireturn, 1) := by decide +kernel
theorem dX10_told_214 : decode cX10_told 214 = .ok (.iload_n 2, 1) := by decide +kernel
theorem dX10_told_215 : decode cX10_told 215 = .ok (.ireturn, 1) := by decide +kernel
theorem dX10_isSinger_0 : decode cX10_isSinger 0 = .ok (.iload_n 1, 1) := by decide +kernel
theorem dX10_isSinger_1 : decode cX10_isSinger 1 = .ok (.iconst 0, 1) := by decide +kernel
theorem dX10_isSinger_2 : decode cX10_isSinger 2 = .ok (.aload_n 0, 1) := by decide +kernel
theorem dX10_isSinger_3 : decode cX10_isSinger 3 = .ok (.getfield 23, 3) := by decide +kernel
theorem dX10_isSinger_6 : decode cX10_isSinger 6 = .ok (.iconst 0, 1) := by decide +kernel
theorem dX10_isSinger_7 : decode cX10_isSinger 7 = .ok (.iaload, 1) := by decide +kernel
theorem dX10_isSinger_8 : decode cX10_isSinger 8 = .ok (.iconst 1, 1) := by decide +kernel
theorem dX10_isSinger_9 : decode cX10_isSinger 9 = .ok (.isub, 1) := by decide +kernel
theorem dX10_isSinger_10 : decode cX10_isSinger 10 = .ok (.invokestatic 129, 3) := by decide +kernel
theorem dX10_isSinger_13 : decode cX10_isSinger 13 = .ok (.ireturn, 1) := by decide +kernel
theorem dX10_isNote_0 : decode cX10_isNote 0 = .ok (.iload_n 1, 1) := by decide +kernel
theorem dX10_isNote_1 : decode cX10_isNote 1 = .ok (.iconst 0, 1) := by decide +kernel
theorem dX10_isNote_2 : decode cX10_isNote 2 = .ok (.aload_n 0, 1) := by decide +kernel
theorem dX10_isNote_3 : decode cX10_isNote 3 = .ok (.getfield 23, 3) := by decide +kernel
theorem dX10_isNote_6 : decode cX10_isNote 6 = .ok (.iconst 1, 1) := by decide +kernel
theorem dX10_isNote_7 : decode cX10_isNote 7 = .ok (.iaload, 1) := by decide +kernel
theorem dX10_isNote_8 : decode cX10_isNote 8 = .ok (.iconst 1, 1) := by decide +kernel
theorem dX10_isNote_9 : decode cX10_isNote 9 = .ok (.isub, 1) := by decide +kernel
theorem dX10_isNote_10 : decode cX10_isNote 10 = .ok (.invokestatic 129, 3) := by decide +kernel
theorem dX10_isNote_13 : decode cX10_isNote 13 = .ok (.ireturn, 1) := by decide +kernel
theorem dX10_isVowel_0 : decode cX10_isVowel 0 = .ok (.iload_n 0, 1) := by decide +kernel
theorem dX10_isVowel_1 : decode cX10_isVowel 1 = .ok (.iconst 0, 1) := by decide +kernel
theorem dX10_isVowel_2 : decode cX10_isVowel 2 = .ok (.iconst 5, 1) := by decide +kernel
theorem dX10_isVowel_3 : decode cX10_isVowel 3 = .ok (.invokestatic 129, 3) := by decide +kernel
theorem dX10_isVowel_6 : decode cX10_isVowel 6 = .ok (.ireturn, 1) := by decide +kernel
theorem dX10_singer_0 : decode cX10_singer 0 = .ok (.aload_n 0, 1) := by decide +kernel
theorem dX10_singer_1 : decode cX10_singer 1 = .ok (.iconst 0, 1) := by decide +kernel
theorem dX10_singer_2 : decode cX10_singer 2 = .ok (.putfield 95, 3) := by decide +kernel
theorem dX10_singer_5 : decode cX10_singer 5 = .ok (.aload_n 0, 1) := by decide +kernel
theorem dX10_singer_6 : decode cX10_singer 6 = .ok (.aload_n 0, 1) := by decide +kernel
theorem dX10_singer_7 : decode cX10_singer 7 = .ok (.iload_n 1, 1) := by decide +kernel
theorem dX10_singer_8 : decode cX10_singer 8 = .ok (.invokevirtual 321, 3) := by decide +kernel
theorem dX10_singer_11 : decode cX10_singer 11 = .ok (.ifCond .ne 7, 3) := by decide +kernel
theorem dX10_singer_14 : decode cX10_singer 14 = .ok (.iconst 1, 1) := by decide +kernel
theorem dX10_singer_15 : decode cX10_singer 15 = .ok (.goto 4, 3) := by decide +kernel
theorem dX10_singer_18 : decode cX10_singer 18 = .ok (.iconst 0, 1) := by decide +kernel
theorem dX10_singer_19 : decode cX10_singer 19 = .ok (.iconst 1, 1) := by decide +kernel
theorem dX10_singer_20 : decode cX10_singer 20 = .ok (.iconst 0, 1) := by decide +kernel
theorem dX10_singer_21 : decode cX10_singer 21 = .ok (.invokevirtual 171, 3) := by decide +kernel
theorem dX10_singer_24 : decode cX10_singer 24 = .ok (.ifCond .ne 27, 3) := by decide +kernel
theorem dX10_singer_27 : decode cX10_singer 27 = .ok (.aload_n 0, 1) := by decide +kernel
theorem dX10_singer_28 : decode cX10_singer 28 = .ok (.iload_n 2, 1) := by decide +kernel
theorem dX10_singer_29 : decode cX10_singer 29 = .ok (.iconst 0, 1) := by decide +kernel
theorem dX10_singer_30 : decode cX10_singer 30 = .ok (.bipush 7, 2) := by decide +kernel
theorem dX10_singer_32 : decode cX10_singer 32 = .ok (.invokestatic 129, 3) := by decide +kernel
theorem dX10_singer_35 : decode cX10_singer 35 = .ok (.ifCond .ne 7, 3) := by decide +kernel
theorem dX10_singer_38 : decode cX10_singer 38 = .ok (.iconst 1, 1) := by decide +kernel
theorem dX10_singer_39 : decode cX10_singer 39 = .ok (.goto 4, 3) := by decide +kernel
theorem dX10_singer_42 : decode cX10_singer 42 = .ok (.iconst 0, 1) := by decide +kernel
theorem dX10_singer_43 : decode cX10_singer 43 = .ok (.iconst 2, 1) := by decide +kernel
theorem dX10_singer_44 : decode cX10_singer 44 = .ok (.iconst 1, 1) := by decide +kernel
theorem dX10_singer_45 : decode cX10_singer 45 = .ok (.invokevirtual 171, 3) := by decide +kernel
theorem dX10_singer_48 : decode cX10_singer 48 = .ok (.ifCond .eq 5, 3) := by decide +kernel
theorem dX10_singer_51 : decode cX10_singer 51 = .ok (.iconst 0, 1) := by decide +kernel
theorem dX10_singer_52 : decode cX10_singer 52 = .ok (.ireturn, 1) := by decide +kernel
theorem dX10_singer_53 : decode cX10_singer 53 = .ok (.iload_n 2, 1) := by decide +kernel
theorem dX10_singer_54 : decode cX10_singer 54 = .ok (.tableswitch 90 0 6 #[42, 42, 42, 51, 60, 70, 80], 42) := by decide +kernel
theorem dX10_singer_96 : decode cX10_singer 96 = .ok (.aload_n 0, 1) := by decide +kernel
theorem dX10_singer_97 : decode cX10_singer 97 = .ok (.getfield 31, 3) := by decide +kernel
theorem dX10_singer_100 : decode cX10_singer 100 = .ok (.iload_n 1, 1) := by decide +kernel
theorem dX10_singer_101 : decode cX10_singer 101 = .ok (.aaload, 1) := by decide +kernel
theorem dX10_singer_102 : decode cX10_singer 102 = .ok (.iload_n 2, 1) := by decide +kernel
theorem dX10_singer_103 : decode cX10_singer 103 = .ok (.iaload, 1) := by decide +kernel
theorem dX10_singer_104 : decode cX10_singer 104 = .ok (.ireturn, 1) := by decide +kernel
theorem dX10_singer_105 : decode cX10_singer 105 = .ok (.aload_n 0, 1) := by decide +kernel
theorem dX10_singer_106 : decode cX10_singer 106 = .ok (.getfield 67, 3) := by decide +kernel
theorem dX10_singer_109 : decode cX10_singer 109 = .ok (.iconst 0, 1) := by decide +kernel
theorem dX10_singer_110 : decode cX10_singer 110 = .ok (.iload_n 1, 1) := by decide +kernel
theorem dX10_singer_111 : decode cX10_singer 111 = .ok (.iadd, 1) := by decide +kernel
theorem dX10_singer_112 : decode cX10_singer 112 = .ok (.iaload, 1) := by decide +kernel
theorem dX10_singer_113 : decode cX10_singer 113 = .ok (.ireturn, 1) := by decide +kernel
theorem dX10_singer_114 : decode cX10_singer 114 = .ok (.aload_n 0, 1) := by decide +kernel
theorem dX10_singer_115 : decode cX10_singer 115 = .ok (.getfield 67, 3) := by decide +kernel
theorem dX10_singer_118 : decode cX10_singer 118 = .ok (.bipush 7, 2) := by decide +kernel
theorem dX10_singer_120 : decode cX10_singer 120 = .ok (.iload_n 1, 1) := by decide +kernel
theorem dX10_singer_121 : decode cX10_singer 121 = .ok (.iadd, 1) := by decide +kernel
theorem dX10_singer_122 : decode cX10_singer 122 = .ok (.iaload, 1) := by decide +kernel
theorem dX10_singer_123 : decode cX10_singer 123 = .ok (.ireturn, 1) := by decide +kernel
theorem dX10_singer_124 : decode cX10_singer 124 = .ok (.aload_n 0, 1) := by decide +kernel
theorem dX10_singer_125 : decode cX10_singer 125 = .ok (.getfield 67, 3) := by decide +kernel
theorem dX10_singer_128 : decode cX10_singer 128 = .ok (.bipush 14, 2) := by decide +kernel
theorem dX10_singer_130 : decode cX10_singer 130 = .ok (.iload_n 1, 1) := by decide +kernel
theorem dX10_singer_131 : decode cX10_singer 131 = .ok (.iadd, 1) := by decide +kernel
theorem dX10_singer_132 : decode cX10_singer 132 = .ok (.iaload, 1) := by decide +kernel
theorem dX10_singer_133 : decode cX10_singer 133 = .ok (.ireturn, 1) := by decide +kernel
theorem dX10_singer_134 : decode cX10_singer 134 = .ok (.aload_n 0, 1) := by decide +kernel
theorem dX10_singer_135 : decode cX10_singer 135 = .ok (.getfield 67, 3) := by decide +kernel
theorem dX10_singer_138 : decode cX10_singer 138 = .ok (.bipush 21, 2) := by decide +kernel
theorem dX10_singer_140 : decode cX10_singer 140 = .ok (.iload_n 1, 1) := by decide +kernel
theorem dX10_singer_141 : decode cX10_singer 141 = .ok (.iadd, 1) := by decide +kernel
theorem dX10_singer_142 : decode cX10_singer 142 = .ok (.iaload, 1) := by decide +kernel
theorem dX10_singer_143 : decode cX10_singer 143 = .ok (.ireturn, 1) := by decide +kernel
theorem dX10_singer_144 : decode cX10_singer 144 = .ok (.aload_n 0, 1) := by decide +kernel
theorem dX10_singer_145 : decode cX10_singer 145 = .ok (.getfield 67, 3) := by decide +kernel
theorem dX10_singer_148 : decode cX10_singer 148 = .ok (.bipush 28, 2) := by decide +kernel
