theorem dJ2_getChar_3b067_0 : decode cJ2_getChar_3b067 0 = .ok (.getstatic 44, 3) := by decide +kernel
theorem dJ2_getChar_3b067_3 : decode cJ2_getChar_3b067 3 = .ok (.ifCond .ne 25, 3) := by decide +kernel
theorem dJ2_getChar_3b067_6 : decode cJ2_getChar_3b067 6 = .ok (.iload_n 1, 1) := by decide +kernel
theorem dJ2_getChar_3b067_7 : decode cJ2_getChar_3b067 7 = .ok (.ifCond .lt 11, 3) := by decide +kernel
theorem dJ2_getChar_3b067_10 : decode cJ2_getChar_3b067 10 = .ok (.iload_n 1, 1) := by decide +kernel
theorem dJ2_getChar_3b067_11 : decode cJ2_getChar_3b067 11 = .ok (.aload_n 0, 1) := by decide +kernel
theorem dJ2_getChar_3b067_12 : decode cJ2_getChar_3b067 12 = .ok (.invokestatic 48, 3) := by decide +kernel
theorem dJ2_getChar_3b067_15 : decode cJ2_getChar_3b067 15 = .ok (.if_icmp .lt 13, 3) := by decide +kernel
theorem dJ2_getChar_3b067_18 : decode cJ2_getChar_3b067 18 = .ok (.new 52, 3) := by decide +kernel
theorem dJ2_getChar_3b067_21 : decode cJ2_getChar_3b067 21 = .ok (.dup, 1) := by decide +kernel
theorem dJ2_getChar_3b067_22 : decode cJ2_getChar_3b067 22 = .ok (.ldc 54, 2) := by decide +kernel
theorem dJ2_getChar_3b067_24 : decode cJ2_getChar_3b067 24 = .ok (.invokespecial 56, 3) := by decide +kernel
theorem dJ2_getChar_3b067_27 : decode cJ2_getChar_3b067 27 = .ok (.athrow, 1) := by decide +kernel
theorem dJ2_getChar_3b067_28 : decode cJ2_getChar_3b067 28 = .ok (.iload_n 1, 1) := by decide +kernel
theorem dJ2_getChar_3b067_29 : decode cJ2_getChar_3b067 29 = .ok (.iconst 1, 1) := by decide +kernel
theorem dJ2_getChar_3b067_30 : decode cJ2_getChar_3b067 30 = .ok (.ishl, 1) := by decide +kernel
theorem dJ2_getChar_3b067_31 : decode cJ2_getChar_3b067 31 = .ok (.istore_n 1, 1) := by decide +kernel
theorem dJ2_getChar_3b067_32 : decode cJ2_getChar_3b067 32 = .ok (.aload_n 0, 1) := by decide +kernel
theorem dJ2_getChar_3b067_33 : decode cJ2_getChar_3b067 33 = .ok (.iload_n 1, 1) := by decide +kernel
theorem dJ2_getChar_3b067_34 : decode cJ2_getChar_3b067 34 = .ok (.iinc 1 1, 3) := by decide +kernel
theorem dJ2_getChar_3b067_37 : decode cJ2_getChar_3b067 37 = .ok (.baload, 1) := by decide +kernel
theorem dJ2_getChar_3b067_38 : decode cJ2_getChar_3b067 38 = .ok (.sipush 255, 3) := by decide +kernel
theorem dJ2_getChar_3b067_41 : decode cJ2_getChar_3b067 41 = .ok (.iand, 1) := by decide +kernel
theorem dJ2_getChar_3b067_42 : decode cJ2_getChar_3b067 42 = .ok (.getstatic 59, 3) := by decide +kernel
theorem dJ2_getChar_3b067_45 : decode cJ2_getChar_3b067 45 = .ok (.ishl, 1) := by decide +kernel
theorem dJ2_getChar_3b067_46 : decode cJ2_getChar_3b067 46 = .ok (.aload_n 0, 1) := by decide +kernel
theorem dJ2_getChar_3b067_47 : decode cJ2_getChar_3b067 47 = .ok (.iload_n 1, 1) := by decide +kernel
theorem dJ2_getChar_3b067_48 : decode cJ2_getChar_3b067 48 = .ok (.baload, 1) := by decide +kernel
theorem dJ2_getChar_3b067_49 : decode cJ2_getChar_3b067 49 = .ok (.sipush 255, 3) := by decide +kernel
theorem dJ2_getChar_3b067_52 : decode cJ2_getChar_3b067 52 = .ok (.iand, 1) := by decide +kernel
theorem dJ2_getChar_3b067_53 : decode cJ2_getChar_3b067 53 = .ok (.getstatic 63, 3) := by decide +kernel
theorem dJ2_getChar_3b067_56 : decode cJ2_getChar_3b067 56 = .ok (.ishl, 1) := by decide +kernel
theorem dJ2_getChar_3b067_57 : decode cJ2_getChar_3b067 57 = .ok (.ior, 1) := by decide +kernel
theorem dJ2_getChar_3b067_58 : decode cJ2_getChar_3b067 58 = .ok (.i2c, 1) := by decide +kernel
theorem dJ2_getChar_3b067_59 : decode cJ2_getChar_3b067 59 = .ok (.ireturn, 1) := by decide +kernel
theorem dJ2_length_9d52b_0 : decode cJ2_length_9d52b 0 = .ok (.aload_n 0, 1) := by decide +kernel
theorem dJ2_length_9d52b_1 : decode cJ2_length_9d52b 1 = .ok (.arraylength, 1) := by decide +kernel
theorem dJ2_length_9d52b_2 : decode cJ2_length_9d52b 2 = .ok (.iconst 1, 1) := by decide +kernel
theorem dJ2_length_9d52b_3 : decode cJ2_length_9d52b 3 = .ok (.ishr, 1) := by decide +kernel
theorem dJ2_length_9d52b_4 : decode cJ2_length_9d52b 4 = .ok (.ireturn, 1) := by decide +kernel
theorem dJ2_charAt_3b067_0 : decode cJ2_charAt_3b067 0 = .ok (.iload_n 1, 1) := by decide +kernel
theorem dJ2_charAt_3b067_1 : decode cJ2_charAt_3b067 1 = .ok (.aload_n 0, 1) := by decide +kernel
theorem dJ2_charAt_3b067_2 : decode cJ2_charAt_3b067 2 = .ok (.invokestatic 67, 3) := by decide +kernel
theorem dJ2_charAt_3b067_5 : decode cJ2_charAt_3b067 5 = .ok (.aload_n 0, 1) := by decide +kernel
theorem dJ2_charAt_3b067_6 : decode cJ2_charAt_3b067 6 = .ok (.iload_n 1, 1) := by decide +kernel
theorem dJ2_charAt_3b067_7 : decode cJ2_charAt_3b067 7 = .ok (.invokestatic 71, 3) := by decide +kernel
theorem dJ2_charAt_3b067_10 : decode cJ2_charAt_3b067 10 = .ok (.ireturn, 1) := by decide +kernel
theorem dJ2_checkIndex_2214a_0 : decode cJ2_checkIndex_2214a 0 = .ok (.iload_n 0, 1) := by decide +kernel
theorem dJ2_checkIndex_2214a_1 : decode cJ2_checkIndex_2214a 1 = .ok (.aload_n 1, 1) := by decide +kernel
theorem dJ2_checkIndex_2214a_2 : decode cJ2_checkIndex_2214a 2 = .ok (.invokestatic 48, 3) := by decide +kernel
theorem dJ2_checkIndex_2214a_5 : decode cJ2_checkIndex_2214a 5 = .ok (.invokestatic 414, 3) := by decide +kernel
theorem dJ2_checkIndex_2214a_8 : decode cJ2_checkIndex_2214a 8 = .ok (.return_, 1) := by decide +kernel
theorem dJ3_checkIndex_8e157_0 : decode cJ3_checkIndex_8e157 0 = .ok (.iload_n 0, 1) := by decide +kernel
theorem dJ3_checkIndex_8e157_1 : decode cJ3_checkIndex_8e157 1 = .ok (.ifCond .lt 8, 3) := by decide +kernel
theorem dJ3_checkIndex_8e157_4 : decode cJ3_checkIndex_8e157 4 = .ok (.iload_n 0, 1) := by decide +kernel
theorem dJ3_checkIndex_8e157_5 : decode cJ3_checkIndex_8e157 5 = .ok (.iload_n 1, 1) := by decide +kernel
theorem dJ3_checkIndex_8e157_6 : decode cJ3_checkIndex_8e157 6 = .ok (.if_icmp .lt 10, 3) := by decide +kernel
theorem dJ3_checkIndex_8e157_9 : decode cJ3_checkIndex_8e157 9 = .ok (.aload_n 2, 1) := by decide +kernel
theorem dJ3_checkIndex_8e157_10 : decode cJ3_checkIndex_8e157 10 = .ok (.iload_n 0, 1) := by decide +kernel
theorem dJ3_checkIndex_8e157_11 : decode cJ3_checkIndex_8e157 11 = .ok (.iload_n 1, 1) := by decide +kernel
theorem dJ3_checkIndex_8e157_12 : decode cJ3_checkIndex_8e157 12 = .ok (.invokestatic 95, 3) := by decide +kernel
theorem dJ3_checkIndex_8e157_15 : decode cJ3_checkIndex_8e157 15 = .ok (.athrow, 1) := by decide +kernel
theorem dJ3_checkIndex_8e157_16 : decode cJ3_checkIndex_8e157 16 = .ok (.iload_n 0, 1) := by decide +kernel
theorem dJ3_checkIndex_8e157_17 : decode cJ3_checkIndex_8e157 17 = .ok (.ireturn, 1) := by decide +kernel
theorem dL_choir_0 : decode cL_choir 0 = .ok (.aload_n 2, 1) := by decide +kernel
theorem dL_choir_1 : decode cL_choir 1 = .ok (.iconst 0, 1) := by decide +kernel
theorem dL_choir_2 : decode cL_choir 2 = .ok (.aload_n 0, 1) := by decide +kernel
theorem dL_choir_3 : decode cL_choir 3 = .ok (.iload_n 1, 1) := by decide +kernel
theorem dL_choir_4 : decode cL_choir 4 = .ok (.invokevirtual 7, 3) := by decide +kernel
theorem dL_choir_7 : decode cL_choir 7 = .ok (.i2l, 1) := by decide +kernel
theorem dL_choir_8 : decode cL_choir 8 = .ok (.lastore, 1) := by decide +kernel
theorem dL_choir_9 : decode cL_choir 9 = .ok (.goto 6, 3) := by decide +kernel
theorem dL_choir_12 : decode cL_choir 12 = .ok (.astore_n 3, 1) := by decide +kernel
theorem dL_choir_13 : decode cL_choir 13 = .ok (.iconst 1, 1) := by decide +kernel
theorem dL_choir_14 : decode cL_choir 14 = .ok (.ireturn, 1) := by decide +kernel
theorem dL_choir_15 : decode cL_choir 15 = .ok (.iconst 0, 1) := by decide +kernel
theorem dL_choir_16 : decode cL_choir 16 = .ok (.ireturn, 1) := by decide +kernel
theorem dL_law_0 : decode cL_law 0 = .ok (.aload_n 2, 1) := by decide +kernel
theorem dL_law_1 : decode cL_law 1 = .ok (.iconst 0, 1) := by decide +kernel
theorem dL_law_2 : decode cL_law 2 = .ok (.aload_n 0, 1) := by decide +kernel
theorem dL_law_3 : decode cL_law 3 = .ok (.iload_n 1, 1) := by decide +kernel
theorem dL_law_4 : decode cL_law 4 = .ok (.invokevirtual 15, 3) := by decide +kernel
theorem dL_law_7 : decode cL_law 7 = .ok (.i2l, 1) := by decide +kernel
theorem dL_law_8 : decode cL_law 8 = .ok (.lastore, 1) := by decide +kernel
theorem dL_law_9 : decode cL_law 9 = .ok (.goto 6, 3) := by decide +kernel
theorem dL_law_12 : decode cL_law 12 = .ok (.astore_n 3, 1) := by decide +kernel
theorem dL_law_13 : decode cL_law 13 = .ok (.iconst 1, 1) := by decide +kernel
theorem dL_law_14 : decode cL_law 14 = .ok (.ireturn, 1) := by decide +kernel
theorem dL_law_15 : decode cL_law 15 = .ok (.iconst 0, 1) := by decide +kernel
theorem dL_law_16 : decode cL_law 16 = .ok (.ireturn, 1) := by decide +kernel
theorem dL_work_0 : decode cL_work 0 = .ok (.aload_n 2, 1) := by decide +kernel
theorem dL_work_1 : decode cL_work 1 = .ok (.iconst 0, 1) := by decide +kernel
theorem dL_work_2 : decode cL_work 2 = .ok (.aload_n 0, 1) := by decide +kernel
theorem dL_work_3 : decode cL_work 3 = .ok (.iload_n 1, 1) := by decide +kernel
theorem dL_work_4 : decode cL_work 4 = .ok (.invokevirtual 18, 3) := by decide +kernel
theorem dL_work_7 : decode cL_work 7 = .ok (.i2l, 1) := by decide +kernel
theorem dL_work_8 : decode cL_work 8 = .ok (.lastore, 1) := by decide +kernel
theorem dL_work_9 : decode cL_work 9 = .ok (.goto 6, 3) := by decide +kernel
theorem dL_work_12 : decode cL_work 12 = .ok (.astore_n 3, 1) := by decide +kernel
theorem dL_work_13 : decode cL_work 13 = .ok (.iconst 1, 1) := by decide +kernel
theorem dL_work_14 : decode cL_work 14 = .ok (.ireturn, 1) := by decide +kernel
theorem dL_work_15 : decode cL_work 15 = .ok (.iconst 0, 1) := by decide +kernel
theorem dL_work_16 : decode cL_work 16 = .ok (.ireturn, 1) := by decide +kernel
theorem dL_book_0 : decode cL_book 0 = .ok (.aload_n 2, 1) := by decide +kernel
theorem dL_book_1 : decode cL_book 1 = .ok (.iconst 0, 1) := by decide +kernel
theorem dL_book_2 : decode cL_book 2 = .ok (.aload_n 0, 1) := by decide +kernel
theorem dL_book_3 : decode cL_book 3 = .ok (.iload_n 1, 1) := by decide +kernel
theorem dL_book_4 : decode cL_book 4 = .ok (.invokevirtual 21, 3) := by decide +kernel
theorem dL_book_7 : decode cL_book 7 = .ok (.i2l, 1) := by decide +kernel
theorem dL_book_8 : decode cL_book 8 = .ok (.lastore, 1) := by decide +kernel
theorem dL_book_9 : decode cL_book 9 = .ok (.goto 6, 3) := by decide +kernel
theorem dL_book_12 : decode cL_book 12 = .ok (.astore_n 3, 1) := by decide +kernel
theorem dL_book_13 : decode cL_book 13 = .ok (.iconst 1, 1) := by decide +kernel
theorem dL_book_14 : decode cL_book 14 = .ok (.ireturn, 1) := by decide +kernel
theorem dL_book_15 : decode cL_book 15 = .ok (.iconst 0, 1) := by decide +kernel
theorem dL_book_16 : decode cL_book 16 = .ok (.ireturn, 1) := by decide +kernel
theorem dL_told_0 : decode cL_told 0 = .ok (.aload_n 2, 1) := by decide +kernel
theorem dL_told_1 : decode cL_told 1 = .ok (.iconst 0, 1) := by decide +kernel
theorem dL_told_2 : decode cL_told 2 = .ok (.aload_n 0, 1) := by decide +kernel
theorem dL_told_3 : decode cL_told 3 = .ok (.iload_n 1, 1) := by decide +kernel
theorem dL_told_4 : decode cL_told 4 = .ok (.invokevirtual 24, 3) := by decide +kernel
theorem dL_told_7 : decode cL_told 7 = .ok (.i2l, 1) := by decide +kernel
theorem dL_told_8 : decode cL_told 8 = .ok (.lastore, 1) := by decide +kernel
theorem dL_told_9 : decode cL_told 9 = .ok (.goto 6, 3) := by decide +kernel
theorem dL_told_12 : decode cL_told 12 = .ok (.astore_n 3, 1) := by decide +kernel
theorem dL_told_13 : decode cL_told 13 = .ok (.iconst 1, 1) := by decide +kernel
theorem dL_told_14 : decode cL_told 14 = .ok (.ireturn, 1) := by decide +kernel
theorem dL_told_15 : decode cL_told 15 = .ok (.iconst 0, 1) := by decide +kernel
theorem dL_told_16 : decode cL_told 16 = .ok (.ireturn, 1) := by decide +kernel
theorem dL_singer_0 : decode cL_singer 0 = .ok (.aload_n 3, 1) := by decide +kernel
theorem dL_singer_1 : decode cL_singer 1 = .ok (.iconst 0, 1) := by decide +kernel
theorem dL_singer_2 : decode cL_singer 2 = .ok (.aload_n 0, 1) := by decide +kernel
theorem dL_singer_3 : decode cL_singer 3 = .ok (.iload_n 1, 1) := by decide +kernel
theorem dL_singer_4 : decode cL_singer 4 = .ok (.iload_n 2, 1) := by decide +kernel
theorem dL_singer_5 : decode cL_singer 5 = .ok (.invokevirtual 27, 3) := by decide +kernel
theorem dL_singer_8 : decode cL_singer 8 = .ok (.i2l, 1) := by decide +kernel
theorem dL_singer_9 : decode cL_singer 9 = .ok (.lastore, 1) := by decide +kernel
theorem dL_singer_10 : decode cL_singer 10 = .ok (.goto 11, 3) := by decide +kernel
theorem dL_singer_13 : decode cL_singer 13 = .ok (.astore 4, 2) := by decide +kernel
theorem dL_singer_15 : decode cL_singer 15 = .ok (.iconst 1, 1) := by decide +kernel
theorem dL_singer_16 : decode cL_singer 16 = .ok (.ireturn, 1) := by decide +kernel
theorem dL_singer_17 : decode cL_singer 17 = .ok (.astore 4, 2) := by decide +kernel
theorem dL_singer_19 : decode cL_singer 19 = .ok (.iconst 2, 1) := by decide +kernel
theorem dL_singer_20 : decode cL_singer 20 = .ok (.ireturn, 1) := by decide +kernel
theorem dL_singer_21 : decode cL_singer 21 = .ok (.iconst 0, 1) := by decide +kernel
theorem dL_singer_22 : decode cL_singer 22 = .ok (.ireturn, 1) := by decide +kernel
theorem dL_note_0 : decode cL_note 0 = .ok (.aload_n 3, 1) := by decide +kernel
theorem dL_note_1 : decode cL_note 1 = .ok (.iconst 0, 1) := by decide +kernel
theorem dL_note_2 : decode cL_note 2 = .ok (.aload_n 0, 1) := by decide +kernel
theorem dL_note_3 : decode cL_note 3 = .ok (.iload_n 1, 1) := by decide +kernel
theorem dL_note_4 : decode cL_note 4 = .ok (.iload_n 2, 1) := by decide +kernel
theorem dL_note_5 : decode cL_note 5 = .ok (.invokevirtual 33, 3) := by decide +kernel
theorem dL_note_8 : decode cL_note 8 = .ok (.i2l, 1) := by decide +kernel
theorem dL_note_9 : decode cL_note 9 = .ok (.lastore, 1) := by decide +kernel
theorem dL_note_10 : decode cL_note 10 = .ok (.goto 11, 3) := by decide +kernel
theorem dL_note_13 : decode cL_note 13 = .ok (.astore 4, 2) := by decide +kernel
theorem dL_note_15 : decode cL_note 15 = .ok (.iconst 1, 1) := by decide +kernel
theorem dL_note_16 : decode cL_note 16 = .ok (.ireturn, 1) := by decide +kernel
theorem dL_note_17 : decode cL_note 17 = .ok (.astore 4, 2) := by decide +kernel
theorem dL_note_19 : decode cL_note 19 = .ok (.iconst 2, 1) := by decide +kernel
theorem dL_note_20 : decode cL_note 20 = .ok (.ireturn, 1) := by decide +kernel
theorem dL_note_21 : decode cL_note 21 = .ok (.iconst 0, 1) := by decide +kernel
theorem dL_note_22 : decode cL_note 22 = .ok (.ireturn, 1) := by decide +kernel
theorem dL_like_0 : decode cL_like 0 = .ok (.aload_n 3, 1) := by decide +kernel
theorem dL_like_1 : decode cL_like 1 = .ok (.iconst 0, 1) := by decide +kernel
theorem dL_like_2 : decode cL_like 2 = .ok (.aload_n 0, 1) := by decide +kernel
theorem dL_like_3 : decode cL_like 3 = .ok (.iload_n 1, 1) := by decide +kernel
theorem dL_like_4 : decode cL_like 4 = .ok (.iload_n 2, 1) := by decide +kernel
theorem dL_like_5 : decode cL_like 5 = .ok (.invokevirtual 36, 3) := by decide +kernel
theorem dL_like_8 : decode cL_like 8 = .ok (.i2l, 1) := by decide +kernel
theorem dL_like_9 : decode cL_like 9 = .ok (.lastore, 1) := by decide +kernel
theorem dL_like_10 : decode cL_like 10 = .ok (.goto 11, 3) := by decide +kernel
theorem dL_like_13 : decode cL_like 13 = .ok (.astore 4, 2) := by decide +kernel
theorem dL_like_15 : decode cL_like 15 = .ok (.iconst 1, 1) := by decide +kernel
theorem dL_like_16 : decode cL_like 16 = .ok (.ireturn, 1) := by decide +kernel
theorem dL_like_17 : decode cL_like 17 = .ok (.astore 4, 2) := by decide +kernel
theorem dL_like_19 : decode cL_like 19 = .ok (.iconst 2, 1) := by decide +kernel
theorem dL_like_20 : decode cL_like 20 = .ok (.ireturn, 1) := by decide +kernel
theorem dL_like_21 : decode cL_like 21 = .ok (.iconst 0, 1) := by decide +kernel
theorem dL_like_22 : decode cL_like 22 = .ok (.ireturn, 1) := by decide +kernel
theorem dL_takes_0 : decode cL_takes 0 = .ok (.aload_n 3, 1) := by decide +kernel
theorem dL_takes_1 : decode cL_takes 1 = .ok (.iconst 0, 1) := by decide +kernel
theorem dL_takes_2 : decode cL_takes 2 = .ok (.aload_n 0, 1) := by decide +kernel
theorem dL_takes_3 : decode cL_takes 3 = .ok (.iload_n 1, 1) := by decide +kernel
theorem dL_takes_4 : decode cL_takes 4 = .ok (.iload_n 2, 1) := by decide +kernel
theorem dL_takes_5 : decode cL_takes 5 = .ok (.invokevirtual 39, 3) := by decide +kernel
theorem dL_takes_8 : decode cL_takes 8 = .ok (.i2l, 1) := by decide +kernel
theorem dL_takes_9 : decode cL_takes 9 = .ok (.lastore, 1) := by decide +kernel
theorem dL_takes_10 : decode cL_takes 10 = .ok (.goto 7, 3) := by decide +kernel
theorem dL_takes_13 : decode cL_takes 13 = .ok (.astore 4, 2) := by decide +kernel
theorem dL_takes_15 : decode cL_takes 15 = .ok (.iconst 1, 1) := by decide +kernel
theorem dL_takes_16 : decode cL_takes 16 = .ok (.ireturn, 1) := by decide +kernel
theorem dL_takes_17 : decode cL_takes 17 = .ok (.iconst 0, 1) := by decide +kernel
theorem dL_takes_18 : decode cL_takes 18 = .ok (.ireturn, 1) := by decide +kernel
theorem dL_would_0 : decode cL_would 0 = .ok (.aload 9, 2) := by decide +kernel
theorem dL_would_2 : decode cL_would 2 = .ok (.iconst 0, 1) := by decide +kernel
theorem dL_would_3 : decode cL_would 3 = .ok (.aload_n 0, 1) := by decide +kernel
theorem dL_would_4 : decode cL_would 4 = .ok (.iload_n 1, 1) := by decide +kernel
theorem dL_would_5 : decode cL_would 5 = .ok (.iload_n 2, 1) := by decide +kernel
theorem dL_would_6 : decode cL_would 6 = .ok (.iload_n 3, 1) := by decide +kernel
theorem dL_would_7 : decode cL_would 7 = .ok (.iload 4, 2) := by decide +kernel
theorem dL_would_9 : decode cL_would 9 = .ok (.iload 5, 2) := by decide +kernel
theorem dL_would_11 : decode cL_would 11 = .ok (.iload 6, 2) := by decide +kernel
theorem dL_would_13 : decode cL_would 13 = .ok (.iload 7, 2) := by decide +kernel
theorem dL_would_15 : decode cL_would 15 = .ok (.iload 8, 2) := by decide +kernel
theorem dL_would_17 : decode cL_would 17 = .ok (.invokevirtual 42, 3) := by decide +kernel
theorem dL_would_20 : decode cL_would 20 = .ok (.i2l, 1) := by decide +kernel
theorem dL_would_21 : decode cL_would 21 = .ok (.lastore, 1) := by decide +kernel
theorem dL_would_22 : decode cL_would 22 = .ok (.goto 7, 3) := by decide +kernel
theorem dL_would_25 : decode cL_would 25 = .ok (.astore 10, 2) := by decide +kernel
theorem dL_would_27 : decode cL_would 27 = .ok (.iconst 1, 1) := by decide +kernel
theorem dL_would_28 : decode cL_would 28 = .ok (.ireturn, 1) := by decide +kernel
theorem dL_would_29 : decode cL_would 29 = .ok (.iconst 0, 1) := by decide +kernel
theorem dL_would_30 : decode cL_would 30 = .ok (.ireturn, 1) := by decide +kernel
theorem dL_ahead_0 : decode cL_ahead 0 = .ok (.aload_n 3, 1) := by decide +kernel
theorem dL_ahead_1 : decode cL_ahead 1 = .ok (.iconst 0, 1) := by decide +kernel
theorem dL_ahead_2 : decode cL_ahead 2 = .ok (.aload_n 0, 1) := by decide +kernel
theorem dL_ahead_3 : decode cL_ahead 3 = .ok (.iload_n 1, 1) := by decide +kernel
theorem dL_ahead_4 : decode cL_ahead 4 = .ok (.iload_n 2, 1) := by decide +kernel
theorem dL_ahead_5 : decode cL_ahead 5 = .ok (.invokevirtual 46, 3) := by decide +kernel
theorem dL_ahead_8 : decode cL_ahead 8 = .ok (.i2l, 1) := by decide +kernel
theorem dL_ahead_9 : decode cL_ahead 9 = .ok (.lastore, 1) := by decide +kernel
theorem dL_ahead_10 : decode cL_ahead 10 = .ok (.goto 7, 3) := by decide +kernel
theorem dL_ahead_13 : decode cL_ahead 13 = .ok (.astore 4, 2) := by decide +kernel
theorem dL_ahead_15 : decode cL_ahead 15 = .ok (.iconst 1, 1) := by decide +kernel
theorem dL_ahead_16 : decode cL_ahead 16 = .ok (.ireturn, 1) := by decide +kernel
theorem dL_ahead_17 : decode cL_ahead 17 = .ok (.iconst 0, 1) := by decide +kernel
theorem dL_ahead_18 : decode cL_ahead 18 = .ok (.ireturn, 1) := by decide +kernel
theorem dL_handed_0 : decode cL_handed 0 = .ok (.aload_n 3, 1) := by decide +kernel
theorem dL_handed_1 : decode cL_handed 1 = .ok (.iconst 0, 1) := by decide +kernel
theorem dL_handed_2 : decode cL_handed 2 = .ok (.aload_n 0, 1) := by decide +kernel
theorem dL_handed_3 : decode cL_handed 3 = .ok (.iload_n 1, 1) := by decide +kernel
theorem dL_handed_4 : decode cL_handed 4 = .ok (.iload_n 2, 1) := by decide +kernel
theorem dL_handed_5 : decode cL_handed 5 = .ok (.invokevirtual 49, 3) := by decide +kernel
theorem dL_handed_8 : decode cL_handed 8 = .ok (.i2l, 1) := by decide +kernel
theorem dL_handed_9 : decode cL_handed 9 = .ok (.lastore, 1) := by decide +kernel
theorem dL_handed_10 : decode cL_handed 10 = .ok (.goto 7, 3) := by decide +kernel
theorem dL_handed_13 : decode cL_handed 13 = .ok (.astore 4, 2) := by decide +kernel
theorem dL_handed_15 : decode cL_handed 15 = .ok (.iconst 1, 1) := by decide +kernel
theorem dL_handed_16 : decode cL_handed 16 = .ok (.ireturn, 1) := by decide +kernel
theorem dL_handed_17 : decode cL_handed 17 = .ok (.iconst 0, 1) := by decide +kernel
theorem dL_handed_18 : decode cL_handed 18 = .ok (.ireturn, 1) := by decide +kernel
theorem dL_benched_0 : decode cL_benched 0 = .ok (.aload_n 2, 1) := by decide +kernel
theorem dL_benched_1 : decode cL_benched 1 = .ok (.iconst 0, 1) := by decide +kernel
theorem dL_benched_2 : decode cL_benched 2 = .ok (.aload_n 0, 1) := by decide +kernel
theorem dL_benched_3 : decode cL_benched 3 = .ok (.iload_n 1, 1) := by decide +kernel
theorem dL_benched_4 : decode cL_benched 4 = .ok (.invokevirtual 52, 3) := by decide +kernel
theorem dL_benched_7 : decode cL_benched 7 = .ok (.i2l, 1) := by decide +kernel
theorem dL_benched_8 : decode cL_benched 8 = .ok (.lastore, 1) := by decide +kernel
theorem dL_benched_9 : decode cL_benched 9 = .ok (.goto 6, 3) := by decide +kernel
theorem dL_benched_12 : decode cL_benched 12 = .ok (.astore_n 3, 1) := by decide +kernel
theorem dL_benched_13 : decode cL_benched 13 = .ok (.iconst 1, 1) := by decide +kernel
theorem dL_benched_14 : decode cL_benched 14 = .ok (.ireturn, 1) := by decide +kernel
theorem dL_benched_15 : decode cL_benched 15 = .ok (.iconst 0, 1) := by decide +kernel
theorem dL_benched_16 : decode cL_benched 16 = .ok (.ireturn, 1) := by decide +kernel
theorem dL_wordings_0 : decode cL_wordings 0 = .ok (.aload_n 2, 1) := by decide +kernel
theorem dL_wordings_1 : decode cL_wordings 1 = .ok (.iconst 0, 1) := by decide +kernel
theorem dL_wordings_2 : decode cL_wordings 2 = .ok (.aload_n 0, 1) := by decide +kernel
theorem dL_wordings_3 : decode cL_wordings 3 = .ok (.iload_n 1, 1) := by decide +kernel
theorem dL_wordings_4 : decode cL_wordings 4 = .ok (.invokevirtual 55, 3) := by decide +kernel
theorem dL_wordings_7 : decode cL_wordings 7 = .ok (.lastore, 1) := by decide +kernel
theorem dL_wordings_8 : decode cL_wordings 8 = .ok (.goto 6, 3) := by decide +kernel
theorem dL_wordings_11 : decode cL_wordings 11 = .ok (.astore_n 3, 1) := by decide +kernel
theorem dL_wordings_12 : decode cL_wordings 12 = .ok (.iconst 1, 1) := by decide +kernel
theorem dL_wordings_13 : decode cL_wordings 13 = .ok (.ireturn, 1) := by decide +kernel
theorem dL_wordings_14 : decode cL_wordings 14 = .ok (.iconst 0, 1) := by decide +kernel
theorem dL_wordings_15 : decode cL_wordings 15 = .ok (.ireturn, 1) := by decide +kernel
theorem dL_who_0 : decode cL_who 0 = .ok (.aload_n 2, 1) := by decide +kernel
theorem dL_who_1 : decode cL_who 1 = .ok (.iconst 0, 1) := by decide +kernel
theorem dL_who_2 : decode cL_who 2 = .ok (.aload_n 0, 1) := by decide +kernel
theorem dL_who_3 : decode cL_who 3 = .ok (.iload_n 1, 1) := by decide +kernel
theorem dL_who_4 : decode cL_who 4 = .ok (.invokevirtual 59, 3) := by decide +kernel
theorem dL_who_7 : decode cL_who 7 = .ok (.i2l, 1) := by decide +kernel
theorem dL_who_8 : decode cL_who 8 = .ok (.lastore, 1) := by decide +kernel
theorem dL_who_9 : decode cL_who 9 = .ok (.goto 6, 3) := by decide +kernel
theorem dL_who_12 : decode cL_who 12 = .ok (.astore_n 3, 1) := by decide +kernel
theorem dL_who_13 : decode cL_who 13 = .ok (.iconst 1, 1) := by decide +kernel
theorem dL_who_14 : decode cL_who 14 = .ok (.ireturn, 1) := by decide +kernel
theorem dL_who_15 : decode cL_who 15 = .ok (.iconst 0, 1) := by decide +kernel
theorem dL_who_16 : decode cL_who 16 = .ok (.ireturn, 1) := by decide +kernel
theorem dL_listen_0 : decode cL_listen 0 = .ok (.aload_n 2, 1) := by decide +kernel
theorem dL_listen_1 : decode cL_listen 1 = .ok (.iconst 0, 1) := by decide +kernel
theorem dL_listen_2 : decode cL_listen 2 = .ok (.aload_n 0, 1) := by decide +kernel
theorem dL_listen_3 : decode cL_listen 3 = .ok (.iload_n 1, 1) := by decide +kernel
theorem dL_listen_4 : decode cL_listen 4 = .ok (.invokevirtual 62, 3) := by decide +kernel
theorem dL_listen_7 : decode cL_listen 7 = .ok (.i2l, 1) := by decide +kernel
theorem dL_listen_8 : decode cL_listen 8 = .ok (.lastore, 1) := by decide +kernel
theorem dL_listen_9 : decode cL_listen 9 = .ok (.goto 6, 3) := by decide +kernel
theorem dL_listen_12 : decode cL_listen 12 = .ok (.astore_n 3, 1) := by decide +kernel
theorem dL_listen_13 : decode cL_listen 13 = .ok (.iconst 1, 1) := by decide +kernel
theorem dL_listen_14 : decode cL_listen 14 = .ok (.ireturn, 1) := by decide +kernel
theorem dL_listen_15 : decode cL_listen 15 = .ok (.iconst 0, 1) := by decide +kernel
theorem dL_listen_16 : decode cL_listen 16 = .ok (.ireturn, 1) := by decide +kernel
theorem dL_duty_0 : decode cL_duty 0 = .ok (.aload_n 2, 1) := by decide +kernel
theorem dL_duty_1 : decode cL_duty 1 = .ok (.iconst 0, 1) := by decide +kernel
theorem dL_duty_2 : decode cL_duty 2 = .ok (.aload_n 0, 1) := by decide +kernel
theorem dL_duty_3 : decode cL_duty 3 = .ok (.iload_n 1, 1) := by decide +kernel
theorem dL_duty_4 : decode cL_duty 4 = .ok (.invokevirtual 65, 3) := by decide +kernel
theorem dL_duty_7 : decode cL_duty 7 = .ok (.i2l, 1) := by decide +kernel
theorem dL_duty_8 : decode cL_duty 8 = .ok (.lastore, 1) := by decide +kernel
theorem dL_duty_9 : decode cL_duty 9 = .ok (.goto 6, 3) := by decide +kernel
theorem dL_duty_12 : decode cL_duty 12 = .ok (.astore_n 3, 1) := by decide +kernel
theorem dL_duty_13 : decode cL_duty 13 = .ok (.iconst 1, 1) := by decide +kernel
theorem dL_duty_14 : decode cL_duty 14 = .ok (.ireturn, 1) := by decide +kernel
theorem dL_duty_15 : decode cL_duty 15 = .ok (.iconst 0, 1) := by decide +kernel
theorem dL_duty_16 : decode cL_duty 16 = .ok (.ireturn, 1) := by decide +kernel
theorem dL_range_0 : decode cL_range 0 = .ok (.aload_n 2, 1) := by decide +kernel
theorem dL_range_1 : decode cL_range 1 = .ok (.iconst 0, 1) := by decide +kernel
theorem dL_range_2 : decode cL_range 2 = .ok (.aload_n 0, 1) := by decide +kernel
theorem dL_range_3 : decode cL_range 3 = .ok (.iload_n 1, 1) := by decide +kernel
theorem dL_range_4 : decode cL_range 4 = .ok (.invokevirtual 68, 3) := by decide +kernel
theorem dL_range_7 : decode cL_range 7 = .ok (.i2l, 1) := by decide +kernel
theorem dL_range_8 : decode cL_range 8 = .ok (.lastore, 1) := by decide +kernel
theorem dL_range_9 : decode cL_range 9 = .ok (.goto 6, 3) := by decide +kernel
theorem dL_range_12 : decode cL_range 12 = .ok (.astore_n 3, 1) := by decide +kernel
theorem dL_range_13 : decode cL_range 13 = .ok (.iconst 1, 1) := by decide +kernel
theorem dL_range_14 : decode cL_range 14 = .ok (.ireturn, 1) := by decide +kernel
theorem dL_range_15 : decode cL_range 15 = .ok (.iconst 0, 1) := by decide +kernel
theorem dL_range_16 : decode cL_range 16 = .ok (.ireturn, 1) := by decide +kernel
theorem dL_quarrel_0 : decode cL_quarrel 0 = .ok (.aload 4, 2) := by decide +kernel
theorem dL_quarrel_2 : decode cL_quarrel 2 = .ok (.iconst 0, 1) := by decide +kernel
theorem dL_quarrel_3 : decode cL_quarrel 3 = .ok (.aload_n 0, 1) := by decide +kernel
theorem dL_quarrel_4 : decode cL_quarrel 4 = .ok (.iload_n 1, 1) := by decide +kernel
theorem dL_quarrel_5 : decode cL_quarrel 5 = .ok (.iload_n 2, 1) := by decide +kernel
theorem dL_quarrel_6 : decode cL_quarrel 6 = .ok (.iload_n 3, 1) := by decide +kernel
theorem dL_quarrel_7 : decode cL_quarrel 7 = .ok (.invokevirtual 71, 3) := by decide +kernel
theorem dL_quarrel_10 : decode cL_quarrel 10 = .ok (.i2l, 1) := by decide +kernel
theorem dL_quarrel_11 : decode cL_quarrel 11 = .ok (.lastore, 1) := by decide +kernel
theorem dL_quarrel_12 : decode cL_quarrel 12 = .ok (.goto 7, 3) := by decide +kernel
theorem dL_quarrel_15 : decode cL_quarrel 15 = .ok (.astore 5, 2) := by decide +kernel
theorem dL_quarrel_17 : decode cL_quarrel 17 = .ok (.iconst 1, 1) := by decide +kernel
theorem dL_quarrel_18 : decode cL_quarrel 18 = .ok (.ireturn, 1) := by decide +kernel
theorem dL_quarrel_19 : decode cL_quarrel 19 = .ok (.iconst 0, 1) := by decide +kernel
theorem dL_quarrel_20 : decode cL_quarrel 20 = .ok (.ireturn, 1) := by decide +kernel
theorem dL_enough_0 : decode cL_enough 0 = .ok (.aload 5, 2) := by decide +kernel
theorem dL_enough_2 : decode cL_enough 2 = .ok (.iconst 0, 1) := by decide +kernel
theorem dL_enough_3 : decode cL_enough 3 = .ok (.aload_n 0, 1) := by decide +kernel
theorem dL_enough_4 : decode cL_enough 4 = .ok (.iload_n 1, 1) := by decide +kernel
theorem dL_enough_5 : decode cL_enough 5 = .ok (.iload_n 2, 1) := by decide +kernel
theorem dL_enough_6 : decode cL_enough 6 = .ok (.iload_n 3, 1) := by decide +kernel
theorem dL_enough_7 : decode cL_enough 7 = .ok (.iload 4, 2) := by decide +kernel
theorem dL_enough_9 : decode cL_enough 9 = .ok (.invokevirtual 75, 3) := by decide +kernel
theorem dL_enough_12 : decode cL_enough 12 = .ok (.lastore, 1) := by decide +kernel
theorem dL_enough_13 : decode cL_enough 13 = .ok (.goto 7, 3) := by decide +kernel
theorem dL_enough_16 : decode cL_enough 16 = .ok (.astore 6, 2) := by decide +kernel
theorem dL_enough_18 : decode cL_enough 18 = .ok (.iconst 1, 1) := by decide +kernel
theorem dL_enough_19 : decode cL_enough 19 = .ok (.ireturn, 1) := by decide +kernel
theorem dL_enough_20 : decode cL_enough 20 = .ok (.iconst 0, 1) := by decide +kernel
theorem dL_enough_21 : decode cL_enough 21 = .ok (.ireturn, 1) := by decide +kernel
theorem dL_rent_0 : decode cL_rent 0 = .ok (.aload 4, 2) := by decide +kernel
theorem dL_rent_2 : decode cL_rent 2 = .ok (.iconst 0, 1) := by decide +kernel
theorem dL_rent_3 : decode cL_rent 3 = .ok (.aload_n 0, 1) := by decide +kernel
theorem dL_rent_4 : decode cL_rent 4 = .ok (.iload_n 1, 1) := by decide +kernel
theorem dL_rent_5 : decode cL_rent 5 = .ok (.iload_n 2, 1) := by decide +kernel
theorem dL_rent_6 : decode cL_rent 6 = .ok (.iload_n 3, 1) := by decide +kernel
theorem dL_rent_7 : decode cL_rent 7 = .ok (.invokevirtual 79, 3) := by decide +kernel
theorem dL_rent_10 : decode cL_rent 10 = .ok (.i2l, 1) := by decide +kernel
theorem dL_rent_11 : decode cL_rent 11 = .ok (.lastore, 1) := by decide +kernel
theorem dL_rent_12 : decode cL_rent 12 = .ok (.goto 11, 3) := by decide +kernel
theorem dL_rent_15 : decode cL_rent 15 = .ok (.astore 5, 2) := by decide +kernel
theorem dL_rent_17 : decode cL_rent 17 = .ok (.iconst 1, 1) := by decide +kernel
theorem dL_rent_18 : decode cL_rent 18 = .ok (.ireturn, 1) := by decide +kernel
theorem dL_rent_19 : decode cL_rent 19 = .ok (.astore 5, 2) := by decide +kernel
theorem dL_rent_21 : decode cL_rent 21 = .ok (.iconst 2, 1) := by decide +kernel
theorem dL_rent_22 : decode cL_rent 22 = .ok (.ireturn, 1) := by decide +kernel
theorem dL_rent_23 : decode cL_rent 23 = .ok (.iconst 0, 1) := by decide +kernel
theorem dL_rent_24 : decode cL_rent 24 = .ok (.ireturn, 1) := by decide +kernel
theorem dL_dearest_0 : decode cL_dearest 0 = .ok (.aload_n 2, 1) := by decide +kernel
theorem dL_dearest_1 : decode cL_dearest 1 = .ok (.iconst 0, 1) := by decide +kernel
theorem dL_dearest_2 : decode cL_dearest 2 = .ok (.aload_n 0, 1) := by decide +kernel
theorem dL_dearest_3 : decode cL_dearest 3 = .ok (.iload_n 1, 1) := by decide +kernel
theorem dL_dearest_4 : decode cL_dearest 4 = .ok (.invokevirtual 82, 3) := by decide +kernel
theorem dL_dearest_7 : decode cL_dearest 7 = .ok (.i2l, 1) := by decide +kernel
theorem dL_dearest_8 : decode cL_dearest 8 = .ok (.lastore, 1) := by decide +kernel
theorem dL_dearest_9 : decode cL_dearest 9 = .ok (.goto 6, 3) := by decide +kernel
theorem dL_dearest_12 : decode cL_dearest 12 = .ok (.astore_n 3, 1) := by decide +kernel
theorem dL_dearest_13 : decode cL_dearest 13 = .ok (.iconst 1, 1) := by decide +kernel
theorem dL_dearest_14 : decode cL_dearest 14 = .ok (.ireturn, 1) := by decide +kernel
theorem dL_dearest_15 : decode cL_dearest 15 = .ok (.iconst 0, 1) := by decide +kernel
theorem dL_dearest_16 : decode cL_dearest 16 = .ok (.ireturn, 1) := by decide +kernel
theorem dL_voices_0 : decode cL_voices 0 = .ok (.aload_n 2, 1) := by decide +kernel
theorem dL_voices_1 : decode cL_voices 1 = .ok (.iconst 0, 1) := by decide +kernel
theorem dL_voices_2 : decode cL_voices 2 = .ok (.aload_n 0, 1) := by decide +kernel
theorem dL_voices_3 : decode cL_voices 3 = .ok (.iload_n 1, 1) := by decide +kernel
theorem dL_voices_4 : decode cL_voices 4 = .ok (.invokevirtual 85, 3) := by decide +kernel
theorem dL_voices_7 : decode cL_voices 7 = .ok (.i2l, 1) := by decide +kernel
theorem dL_voices_8 : decode cL_voices 8 = .ok (.lastore, 1) := by decide +kernel
theorem dL_voices_9 : decode cL_voices 9 = .ok (.goto 6, 3) := by decide +kernel
theorem dL_voices_12 : decode cL_voices 12 = .ok (.astore_n 3, 1) := by decide +kernel
theorem dL_voices_13 : decode cL_voices 13 = .ok (.iconst 1, 1) := by decide +kernel
theorem dL_voices_14 : decode cL_voices 14 = .ok (.ireturn, 1) := by decide +kernel
theorem dL_voices_15 : decode cL_voices 15 = .ok (.iconst 0, 1) := by decide +kernel
theorem dL_voices_16 : decode cL_voices 16 = .ok (.ireturn, 1) := by decide +kernel
theorem dL_sounds_0 : decode cL_sounds 0 = .ok (.aload_n 2, 1) := by decide +kernel
theorem dL_sounds_1 : decode cL_sounds 1 = .ok (.iconst 0, 1) := by decide +kernel
theorem dL_sounds_2 : decode cL_sounds 2 = .ok (.aload_n 0, 1) := by decide +kernel
theorem dL_sounds_3 : decode cL_sounds 3 = .ok (.iload_n 1, 1) := by decide +kernel
theorem dL_sounds_4 : decode cL_sounds 4 = .ok (.invokevirtual 88, 3) := by decide +kernel
theorem dL_sounds_7 : decode cL_sounds 7 = .ok (.i2l, 1) := by decide +kernel
theorem dL_sounds_8 : decode cL_sounds 8 = .ok (.lastore, 1) := by decide +kernel
theorem dL_sounds_9 : decode cL_sounds 9 = .ok (.goto 6, 3) := by decide +kernel
theorem dL_sounds_12 : decode cL_sounds 12 = .ok (.astore_n 3, 1) := by decide +kernel
theorem dL_sounds_13 : decode cL_sounds 13 = .ok (.iconst 1, 1) := by decide +kernel
theorem dL_sounds_14 : decode cL_sounds 14 = .ok (.ireturn, 1) := by decide +kernel
theorem dL_sounds_15 : decode cL_sounds 15 = .ok (.iconst 0, 1) := by decide +kernel
theorem dL_sounds_16 : decode cL_sounds 16 = .ok (.ireturn, 1) := by decide +kernel
theorem dL_beats_0 : decode cL_beats 0 = .ok (.aload_n 2, 1) := by decide +kernel
theorem dL_beats_1 : decode cL_beats 1 = .ok (.iconst 0, 1) := by decide +kernel
theorem dL_beats_2 : decode cL_beats 2 = .ok (.aload_n 0, 1) := by decide +kernel
theorem dL_beats_3 : decode cL_beats 3 = .ok (.iload_n 1, 1) := by decide +kernel
theorem dL_beats_4 : decode cL_beats 4 = .ok (.invokevirtual 91, 3) := by decide +kernel
theorem dL_beats_7 : decode cL_beats 7 = .ok (.i2l, 1) := by decide +kernel
theorem dL_beats_8 : decode cL_beats 8 = .ok (.lastore, 1) := by decide +kernel
theorem dL_beats_9 : decode cL_beats 9 = .ok (.goto 6, 3) := by decide +kernel
theorem dL_beats_12 : decode cL_beats 12 = .ok (.astore_n 3, 1) := by decide +kernel
theorem dL_beats_13 : decode cL_beats 13 = .ok (.iconst 1, 1) := by decide +kernel
theorem dL_beats_14 : decode cL_beats 14 = .ok (.ireturn, 1) := by decide +kernel
theorem dL_beats_15 : decode cL_beats 15 = .ok (.iconst 0, 1) := by decide +kernel
theorem dL_beats_16 : decode cL_beats 16 = .ok (.ireturn, 1) := by decide +kernel
theorem dL_words_0 : decode cL_words 0 = .ok (.aload_n 2, 1) := by decide +kernel
theorem dL_words_1 : decode cL_words 1 = .ok (.iconst 0, 1) := by decide +kernel
theorem dL_words_2 : decode cL_words 2 = .ok (.aload_n 0, 1) := by decide +kernel
theorem dL_words_3 : decode cL_words 3 = .ok (.iload_n 1, 1) := by decide +kernel
theorem dL_words_4 : decode cL_words 4 = .ok (.invokevirtual 94, 3) := by decide +kernel
theorem dL_words_7 : decode cL_words 7 = .ok (.i2l, 1) := by decide +kernel
theorem dL_words_8 : decode cL_words 8 = .ok (.lastore, 1) := by decide +kernel
theorem dL_words_9 : decode cL_words 9 = .ok (.goto 6, 3) := by decide +kernel
theorem dL_words_12 : decode cL_words 12 = .ok (.astore_n 3, 1) := by decide +kernel
theorem dL_words_13 : decode cL_words 13 = .ok (.iconst 1, 1) := by decide +kernel
theorem dL_words_14 : decode cL_words 14 = .ok (.ireturn, 1) := by decide +kernel
theorem dL_words_15 : decode cL_words 15 = .ok (.iconst 0, 1) := by decide +kernel
theorem dL_words_16 : decode cL_words 16 = .ok (.ireturn, 1) := by decide +kernel
theorem dL_alone_0 : decode cL_alone 0 = .ok (.aload_n 2, 1) := by decide +kernel
theorem dL_alone_1 : decode cL_alone 1 = .ok (.iconst 0, 1) := by decide +kernel
theorem dL_alone_2 : decode cL_alone 2 = .ok (.aload_n 0, 1) := by decide +kernel
theorem dL_alone_3 : decode cL_alone 3 = .ok (.iload_n 1, 1) := by decide +kernel
theorem dL_alone_4 : decode cL_alone 4 = .ok (.invokevirtual 97, 3) := by decide +kernel
theorem dL_alone_7 : decode cL_alone 7 = .ok (.i2l, 1) := by decide +kernel
theorem dL_alone_8 : decode cL_alone 8 = .ok (.lastore, 1) := by decide +kernel
theorem dL_alone_9 : decode cL_alone 9 = .ok (.goto 6, 3) := by decide +kernel
theorem dL_alone_12 : decode cL_alone 12 = .ok (.astore_n 3, 1) := by decide +kernel
theorem dL_alone_13 : decode cL_alone 13 = .ok (.iconst 1, 1) := by decide +kernel
theorem dL_alone_14 : decode cL_alone 14 = .ok (.ireturn, 1) := by decide +kernel
theorem dL_alone_15 : decode cL_alone 15 = .ok (.iconst 0, 1) := by decide +kernel
theorem dL_alone_16 : decode cL_alone 16 = .ok (.ireturn, 1) := by decide +kernel
theorem dL_longest_0 : decode cL_longest 0 = .ok (.aload_n 2, 1) := by decide +kernel
theorem dL_longest_1 : decode cL_longest 1 = .ok (.iconst 0, 1) := by decide +kernel
theorem dL_longest_2 : decode cL_longest 2 = .ok (.aload_n 0, 1) := by decide +kernel
theorem dL_longest_3 : decode cL_longest 3 = .ok (.iload_n 1, 1) := by decide +kernel
theorem dL_longest_4 : decode cL_longest 4 = .ok (.invokevirtual 100, 3) := by decide +kernel
theorem dL_longest_7 : decode cL_longest 7 = .ok (.i2l, 1) := by decide +kernel
theorem dL_longest_8 : decode cL_longest 8 = .ok (.lastore, 1) := by decide +kernel
theorem dL_longest_9 : decode cL_longest 9 = .ok (.goto 6, 3) := by decide +kernel
theorem dL_longest_12 : decode cL_longest 12 = .ok (.astore_n 3, 1) := by decide +kernel
theorem dL_longest_13 : decode cL_longest 13 = .ok (.iconst 1, 1) := by decide +kernel
theorem dL_longest_14 : decode cL_longest 14 = .ok (.ireturn, 1) := by decide +kernel
theorem dL_longest_15 : decode cL_longest 15 = .ok (.iconst 0, 1) := by decide +kernel
theorem dL_longest_16 : decode cL_longest 16 = .ok (.ireturn, 1) := by decide +kernel
theorem dL_chorus_0 : decode cL_chorus 0 = .ok (.aload_n 2, 1) := by decide +kernel
theorem dL_chorus_1 : decode cL_chorus 1 = .ok (.iconst 0, 1) := by decide +kernel
theorem dL_chorus_2 : decode cL_chorus 2 = .ok (.aload_n 0, 1) := by decide +kernel
theorem dL_chorus_3 : decode cL_chorus 3 = .ok (.iload_n 1, 1) := by decide +kernel
theorem dL_chorus_4 : decode cL_chorus 4 = .ok (.invokevirtual 103, 3) := by decide +kernel
theorem dL_chorus_7 : decode cL_chorus 7 = .ok (.i2l, 1) := by decide +kernel
theorem dL_chorus_8 : decode cL_chorus 8 = .ok (.lastore, 1) := by decide +kernel
theorem dL_chorus_9 : decode cL_chorus 9 = .ok (.goto 6, 3) := by decide +kernel
theorem dL_chorus_12 : decode cL_chorus 12 = .ok (.astore_n 3, 1) := by decide +kernel
theorem dL_chorus_13 : decode cL_chorus 13 = .ok (.iconst 1, 1) := by decide +kernel
theorem dL_chorus_14 : decode cL_chorus 14 = .ok (.ireturn, 1) := by decide +kernel
theorem dL_chorus_15 : decode cL_chorus 15 = .ok (.iconst 0, 1) := by decide +kernel
theorem dL_chorus_16 : decode cL_chorus 16 = .ok (.ireturn, 1) := by decide +kernel
theorem dL_spare_0 : decode cL_spare 0 = .ok (.aload_n 2, 1) := by decide +kernel
theorem dL_spare_1 : decode cL_spare 1 = .ok (.iconst 0, 1) := by decide +kernel
theorem dL_spare_2 : decode cL_spare 2 = .ok (.aload_n 0, 1) := by decide +kernel
theorem dL_spare_3 : decode cL_spare 3 = .ok (.iload_n 1, 1) := by decide +kernel
theorem dL_spare_4 : decode cL_spare 4 = .ok (.invokevirtual 106, 3) := by decide +kernel
theorem dL_spare_7 : decode cL_spare 7 = .ok (.i2l, 1) := by decide +kernel
theorem dL_spare_8 : decode cL_spare 8 = .ok (.lastore, 1) := by decide +kernel
theorem dL_spare_9 : decode cL_spare 9 = .ok (.goto 6, 3) := by decide +kernel
theorem dL_spare_12 : decode cL_spare 12 = .ok (.astore_n 3, 1) := by decide +kernel
theorem dL_spare_13 : decode cL_spare 13 = .ok (.iconst 1, 1) := by decide +kernel
theorem dL_spare_14 : decode cL_spare 14 = .ok (.ireturn, 1) := by decide +kernel
theorem dL_spare_15 : decode cL_spare 15 = .ok (.iconst 0, 1) := by decide +kernel
theorem dL_spare_16 : decode cL_spare 16 = .ok (.ireturn, 1) := by decide +kernel
theorem dL_sunday_0 : decode cL_sunday 0 = .ok (.aload 5, 2) := by decide +kernel
theorem dL_sunday_2 : decode cL_sunday 2 = .ok (.iconst 0, 1) := by decide +kernel
theorem dL_sunday_3 : decode cL_sunday 3 = .ok (.aload_n 0, 1) := by decide +kernel
theorem dL_sunday_4 : decode cL_sunday 4 = .ok (.iload_n 1, 1) := by decide +kernel
theorem dL_sunday_5 : decode cL_sunday 5 = .ok (.iload_n 2, 1) := by decide +kernel
theorem dL_sunday_6 : decode cL_sunday 6 = .ok (.iload_n 3, 1) := by decide +kernel
theorem dL_sunday_7 : decode cL_sunday 7 = .ok (.iload 4, 2) := by decide +kernel
theorem dL_sunday_9 : decode cL_sunday 9 = .ok (.invokevirtual 109, 3) := by decide +kernel
theorem dL_sunday_12 : decode cL_sunday 12 = .ok (.i2l, 1) := by decide +kernel
theorem dL_sunday_13 : decode cL_sunday 13 = .ok (.lastore, 1) := by decide +kernel
theorem dL_sunday_14 : decode cL_sunday 14 = .ok (.goto 7, 3) := by decide +kernel
theorem dL_sunday_17 : decode cL_sunday 17 = .ok (.astore 6, 2) := by decide +kernel
theorem dL_sunday_19 : decode cL_sunday 19 = .ok (.iconst 1, 1) := by decide +kernel
theorem dL_sunday_20 : decode cL_sunday 20 = .ok (.ireturn, 1) := by decide +kernel
theorem dL_sunday_21 : decode cL_sunday 21 = .ok (.iconst 0, 1) := by decide +kernel
theorem dL_sunday_22 : decode cL_sunday 22 = .ok (.ireturn, 1) := by decide +kernel
theorem dL_span_0 : decode cL_span 0 = .ok (.aload 7, 2) := by decide +kernel
theorem dL_span_2 : decode cL_span 2 = .ok (.iconst 0, 1) := by decide +kernel
theorem dL_span_3 : decode cL_span 3 = .ok (.aload_n 0, 1) := by decide +kernel
theorem dL_span_4 : decode cL_span 4 = .ok (.iload_n 1, 1) := by decide +kernel
theorem dL_span_5 : decode cL_span 5 = .ok (.iload_n 2, 1) := by decide +kernel
theorem dL_span_6 : decode cL_span 6 = .ok (.iload_n 3, 1) := by decide +kernel
theorem dL_span_7 : decode cL_span 7 = .ok (.iload 4, 2) := by decide +kernel
theorem dL_span_9 : decode cL_span 9 = .ok (.iload 5, 2) := by decide +kernel
theorem dL_span_11 : decode cL_span 11 = .ok (.iload 6, 2) := by decide +kernel
theorem dL_span_13 : decode cL_span 13 = .ok (.invokevirtual 113, 3) := by decide +kernel
theorem dL_span_16 : decode cL_span 16 = .ok (.i2l, 1) := by decide +kernel
theorem dL_span_17 : decode cL_span 17 = .ok (.lastore, 1) := by decide +kernel
theorem dL_span_18 : decode cL_span 18 = .ok (.goto 7, 3) := by decide +kernel
theorem dL_span_21 : decode cL_span 21 = .ok (.astore 8, 2) := by decide +kernel
theorem dL_span_23 : decode cL_span 23 = .ok (.iconst 1, 1) := by decide +kernel
theorem dL_span_24 : decode cL_span 24 = .ok (.ireturn, 1) := by decide +kernel
theorem dL_span_25 : decode cL_span 25 = .ok (.iconst 0, 1) := by decide +kernel
theorem dL_span_26 : decode cL_span 26 = .ok (.ireturn, 1) := by decide +kernel
