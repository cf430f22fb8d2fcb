theorem dX9_told_12 : decode cX9_told 12 = .ok (.getfield 33, 3) := by decide +kernel
theorem dX9_told_15 : decode cX9_told 15 = .ok (.getfield 128, 3) := by decide +kernel
theorem dX9_told_18 : decode cX9_told 18 = .ok (.astore_n 2, 1) := by decide +kernel
theorem dX9_told_19 : decode cX9_told 19 = .ok (.iload_n 1, 1) := by decide +kernel
theorem dX9_told_20 : decode cX9_told 20 = .ok (.tableswitch 148 0 10 #[60, 71, 82, 93, 98, 103, 108, 116, 124, 132, 143], 60) := by decide +kernel
theorem dX9_told_80 : decode cX9_told 80 = .ok (.aload_n 0, 1) := by decide +kernel
theorem dX9_told_81 : decode cX9_told 81 = .ok (.getfield 19, 3) := by decide +kernel
theorem dX9_told_84 : decode cX9_told 84 = .ok (.getfield 106, 3) := by decide +kernel
theorem dX9_told_87 : decode cX9_told 87 = .ok (.getfield 112, 3) := by decide +kernel
theorem dX9_told_90 : decode cX9_told 90 = .ok (.ireturn, 1) := by decide +kernel
theorem dX9_told_91 : decode cX9_told 91 = .ok (.aload_n 0, 1) := by decide +kernel
theorem dX9_told_92 : decode cX9_told 92 = .ok (.getfield 19, 3) := by decide +kernel
theorem dX9_told_95 : decode cX9_told 95 = .ok (.getfield 106, 3) := by decide +kernel
theorem dX9_told_98 : decode cX9_told 98 = .ok (.getfield 147, 3) := by decide +kernel
theorem dX9_told_101 : decode cX9_told 101 = .ok (.ireturn, 1) := by decide +kernel
theorem dX9_told_102 : decode cX9_told 102 = .ok (.aload_n 0, 1) := by decide +kernel
theorem dX9_told_103 : decode cX9_told 103 = .ok (.getfield 19, 3) := by decide +kernel
theorem dX9_told_106 : decode cX9_told 106 = .ok (.getfield 106, 3) := by decide +kernel
theorem dX9_told_109 : decode cX9_told 109 = .ok (.getfield 176, 3) := by decide +kernel
theorem dX9_told_112 : decode cX9_told 112 = .ok (.ireturn, 1) := by decide +kernel
theorem dX9_told_113 : decode cX9_told 113 = .ok (.aload_n 2, 1) := by decide +kernel
theorem dX9_told_114 : decode cX9_told 114 = .ok (.getfield 179, 3) := by decide +kernel
theorem dX9_told_117 : decode cX9_told 117 = .ok (.ireturn, 1) := by decide +kernel
theorem dX9_told_118 : decode cX9_told 118 = .ok (.aload_n 2, 1) := by decide +kernel
theorem dX9_told_119 : decode cX9_told 119 = .ok (.getfield 182, 3) := by decide +kernel
theorem dX9_told_122 : decode cX9_told 122 = .ok (.ireturn, 1) := by decide +kernel
theorem dX9_told_123 : decode cX9_told 123 = .ok (.aload_n 2, 1) := by decide +kernel
theorem dX9_told_124 : decode cX9_told 124 = .ok (.getfield 185, 3) := by decide +kernel
theorem dX9_told_127 : decode cX9_told 127 = .ok (.ireturn, 1) := by decide +kernel
theorem dX9_told_128 : decode cX9_told 128 = .ok (.aload_n 2, 1) := by decide +kernel
theorem dX9_told_129 : decode cX9_told 129 = .ok (.getfield 188, 3) := by decide +kernel
theorem dX9_told_132 : decode cX9_told 132 = .ok (.invokestatic 191, 3) := by decide +kernel
theorem dX9_told_135 : decode cX9_told 135 = .ok (.ireturn, 1) := by decide +kernel
theorem dX9_told_136 : decode cX9_told 136 = .ok (.aload_n 2, 1) := by decide +kernel
theorem dX9_told_137 : decode cX9_told 137 = .ok (.getfield 195, 3) := by decide +kernel
theorem dX9_told_140 : decode cX9_told 140 = .ok (.invokestatic 191, 3) := by decide +kernel
theorem dX9_told_143 : decode cX9_told 143 = .ok (.ireturn, 1) := by decide +kernel
theorem dX9_told_144 : decode cX9_told 144 = .ok (.aload_n 2, 1) := by decide +kernel
theorem dX9_told_145 : decode cX9_told 145 = .ok (.getfield 198, 3) := by decide +kernel
theorem dX9_told_148 : decode cX9_told 148 = .ok (.invokestatic 191, 3) := by decide +kernel
theorem dX9_told_151 : decode cX9_told 151 = .ok (.ireturn, 1) := by decide +kernel
theorem dX9_told_152 : decode cX9_told 152 = .ok (.aload_n 0, 1) := by decide +kernel
theorem dX9_told_153 : decode cX9_told 153 = .ok (.getfield 76, 3) := by decide +kernel
theorem dX9_told_156 : decode cX9_told 156 = .ok (.getfield 153, 3) := by decide +kernel
theorem dX9_told_159 : decode cX9_told 159 = .ok (.invokestatic 156, 3) := by decide +kernel
theorem dX9_told_162 : decode cX9_told 162 = .ok (.ireturn, 1) := by decide +kernel
theorem dX9_told_163 : decode cX9_told 163 = .ok (.aload_n 0, 1) := by decide +kernel
theorem dX9_told_164 : decode cX9_told 164 = .ok (.getfield 141, 3) := by decide +kernel
theorem dX9_told_167 : decode cX9_told 167 = .ok (.ireturn, 1) := by decide +kernel
theorem dX9_told_168 : decode cX9_told 168 = .ok (.aload_n 0, 1) := by decide +kernel
theorem dX9_told_169 : decode cX9_told 169 = .ok (.invokevirtual 201, 3) := by decide +kernel
theorem dX9_told_172 : decode cX9_told 172 = .ok (.ireturn, 1) := by decide +kernel
theorem dX9_singer_0 : decode cX9_singer 0 = .ok (.aload_n 0, 1) := by decide +kernel
theorem dX9_singer_1 : decode cX9_singer 1 = .ok (.aload_n 0, 1) := by decide +kernel
theorem dX9_singer_2 : decode cX9_singer 2 = .ok (.iload_n 1, 1) := by decide +kernel
theorem dX9_singer_3 : decode cX9_singer 3 = .ok (.invokevirtual 205, 3) := by decide +kernel
theorem dX9_singer_6 : decode cX9_singer 6 = .ok (.invokevirtual 209, 3) := by decide +kernel
theorem dX9_singer_9 : decode cX9_singer 9 = .ok (.aload_n 0, 1) := by decide +kernel
theorem dX9_singer_10 : decode cX9_singer 10 = .ok (.iload_n 2, 1) := by decide +kernel
theorem dX9_singer_11 : decode cX9_singer 11 = .ok (.iconst 0, 1) := by decide +kernel
theorem dX9_singer_12 : decode cX9_singer 12 = .ok (.bipush 7, 2) := by decide +kernel
theorem dX9_singer_14 : decode cX9_singer 14 = .ok (.invokestatic 168, 3) := by decide +kernel
theorem dX9_singer_17 : decode cX9_singer 17 = .ok (.invokevirtual 172, 3) := by decide +kernel
theorem dX9_singer_20 : decode cX9_singer 20 = .ok (.aload_n 0, 1) := by decide +kernel
theorem dX9_singer_21 : decode cX9_singer 21 = .ok (.getfield 19, 3) := by decide +kernel
theorem dX9_singer_24 : decode cX9_singer 24 = .ok (.getfield 106, 3) := by decide +kernel
theorem dX9_singer_27 : decode cX9_singer 27 = .ok (.astore_n 3, 1) := by decide +kernel
theorem dX9_singer_28 : decode cX9_singer 28 = .ok (.aload_n 0, 1) := by decide +kernel
theorem dX9_singer_29 : decode cX9_singer 29 = .ok (.getfield 33, 3) := by decide +kernel
theorem dX9_singer_32 : decode cX9_singer 32 = .ok (.getfield 128, 3) := by decide +kernel
theorem dX9_singer_35 : decode cX9_singer 35 = .ok (.astore 4, 2) := by decide +kernel
theorem dX9_singer_37 : decode cX9_singer 37 = .ok (.iload_n 2, 1) := by decide +kernel
theorem dX9_singer_38 : decode cX9_singer 38 = .ok (.tableswitch 97 0 6 #[42, 49, 56, 63, 71, 81, 89], 42) := by decide +kernel
theorem dX9_singer_80 : decode cX9_singer 80 = .ok (.aload_n 3, 1) := by decide +kernel
theorem dX9_singer_81 : decode cX9_singer 81 = .ok (.getfield 212, 3) := by decide +kernel
theorem dX9_singer_84 : decode cX9_singer 84 = .ok (.iload_n 1, 1) := by decide +kernel
theorem dX9_singer_85 : decode cX9_singer 85 = .ok (.iaload, 1) := by decide +kernel
theorem dX9_singer_86 : decode cX9_singer 86 = .ok (.ireturn, 1) := by decide +kernel
theorem dX9_singer_87 : decode cX9_singer 87 = .ok (.aload_n 3, 1) := by decide +kernel
theorem dX9_singer_88 : decode cX9_singer 88 = .ok (.getfield 215, 3) := by decide +kernel
theorem dX9_singer_91 : decode cX9_singer 91 = .ok (.iload_n 1, 1) := by decide +kernel
theorem dX9_singer_92 : decode cX9_singer 92 = .ok (.iaload, 1) := by decide +kernel
theorem dX9_singer_93 : decode cX9_singer 93 = .ok (.ireturn, 1) := by decide +kernel
theorem dX9_singer_94 : decode cX9_singer 94 = .ok (.aload_n 3, 1) := by decide +kernel
theorem dX9_singer_95 : decode cX9_singer 95 = .ok (.getfield 218, 3) := by decide +kernel
theorem dX9_singer_98 : decode cX9_singer 98 = .ok (.iload_n 1, 1) := by decide +kernel
theorem dX9_singer_99 : decode cX9_singer 99 = .ok (.iaload, 1) := by decide +kernel
theorem dX9_singer_100 : decode cX9_singer 100 = .ok (.ireturn, 1) := by decide +kernel
theorem dX9_singer_101 : decode cX9_singer 101 = .ok (.aload 4, 2) := by decide +kernel
theorem dX9_singer_103 : decode cX9_singer 103 = .ok (.getfield 198, 3) := by decide +kernel
theorem dX9_singer_106 : decode cX9_singer 106 = .ok (.iload_n 1, 1) := by decide +kernel
theorem dX9_singer_107 : decode cX9_singer 107 = .ok (.iaload, 1) := by decide +kernel
theorem dX9_singer_108 : decode cX9_singer 108 = .ok (.ireturn, 1) := by decide +kernel
theorem dX9_singer_109 : decode cX9_singer 109 = .ok (.aload 4, 2) := by decide +kernel
theorem dX9_singer_111 : decode cX9_singer 111 = .ok (.getfield 182, 3) := by decide +kernel
theorem dX9_singer_114 : decode cX9_singer 114 = .ok (.iload_n 1, 1) := by decide +kernel
theorem dX9_singer_115 : decode cX9_singer 115 = .ok (.ishr, 1) := by decide +kernel
theorem dX9_singer_116 : decode cX9_singer 116 = .ok (.iconst 1, 1) := by decide +kernel
theorem dX9_singer_117 : decode cX9_singer 117 = .ok (.iand, 1) := by decide +kernel
theorem dX9_singer_118 : decode cX9_singer 118 = .ok (.ireturn, 1) := by decide +kernel
theorem dX9_singer_119 : decode cX9_singer 119 = .ok (.aload 4, 2) := by decide +kernel
theorem dX9_singer_121 : decode cX9_singer 121 = .ok (.getfield 188, 3) := by decide +kernel
theorem dX9_singer_124 : decode cX9_singer 124 = .ok (.iload_n 1, 1) := by decide +kernel
theorem dX9_singer_125 : decode cX9_singer 125 = .ok (.iaload, 1) := by decide +kernel
theorem dX9_singer_126 : decode cX9_singer 126 = .ok (.ireturn, 1) := by decide +kernel
theorem dX9_singer_127 : decode cX9_singer 127 = .ok (.aload 4, 2) := by decide +kernel
theorem dX9_singer_129 : decode cX9_singer 129 = .ok (.getfield 195, 3) := by decide +kernel
theorem dX9_singer_132 : decode cX9_singer 132 = .ok (.iload_n 1, 1) := by decide +kernel
theorem dX9_singer_133 : decode cX9_singer 133 = .ok (.iaload, 1) := by decide +kernel
theorem dX9_singer_134 : decode cX9_singer 134 = .ok (.ireturn, 1) := by decide +kernel
theorem dX9_singer_135 : decode cX9_singer 135 = .ok (.aload 4, 2) := by decide +kernel
theorem dX9_singer_137 : decode cX9_singer 137 = .ok (.getfield 221, 3) := by decide +kernel
theorem dX9_singer_140 : decode cX9_singer 140 = .ok (.iload_n 1, 1) := by decide +kernel
theorem dX9_singer_141 : decode cX9_singer 141 = .ok (.iaload, 1) := by decide +kernel
theorem dX9_singer_142 : decode cX9_singer 142 = .ok (.ireturn, 1) := by decide +kernel
theorem dX9_note_0 : decode cX9_note 0 = .ok (.aload_n 0, 1) := by decide +kernel
theorem dX9_note_1 : decode cX9_note 1 = .ok (.aload_n 0, 1) := by decide +kernel
theorem dX9_note_2 : decode cX9_note 2 = .ok (.iload_n 1, 1) := by decide +kernel
theorem dX9_note_3 : decode cX9_note 3 = .ok (.invokevirtual 224, 3) := by decide +kernel
theorem dX9_note_6 : decode cX9_note 6 = .ok (.invokevirtual 209, 3) := by decide +kernel
theorem dX9_note_9 : decode cX9_note 9 = .ok (.aload_n 0, 1) := by decide +kernel
theorem dX9_note_10 : decode cX9_note 10 = .ok (.iload_n 2, 1) := by decide +kernel
theorem dX9_note_11 : decode cX9_note 11 = .ok (.iconst 0, 1) := by decide +kernel
theorem dX9_note_12 : decode cX9_note 12 = .ok (.iconst 3, 1) := by decide +kernel
theorem dX9_note_13 : decode cX9_note 13 = .ok (.invokestatic 168, 3) := by decide +kernel
theorem dX9_note_16 : decode cX9_note 16 = .ok (.invokevirtual 172, 3) := by decide +kernel
theorem dX9_note_19 : decode cX9_note 19 = .ok (.iload_n 2, 1) := by decide +kernel
theorem dX9_note_20 : decode cX9_note 20 = .ok (.tableswitch 67 0 2 #[28, 41, 54], 28) := by decide +kernel
theorem dX9_note_48 : decode cX9_note 48 = .ok (.aload_n 0, 1) := by decide +kernel
theorem dX9_note_49 : decode cX9_note 49 = .ok (.getfield 33, 3) := by decide +kernel
theorem dX9_note_52 : decode cX9_note 52 = .ok (.getfield 128, 3) := by decide +kernel
theorem dX9_note_55 : decode cX9_note 55 = .ok (.getfield 227, 3) := by decide +kernel
theorem dX9_note_58 : decode cX9_note 58 = .ok (.iload_n 1, 1) := by decide +kernel
theorem dX9_note_59 : decode cX9_note 59 = .ok (.iaload, 1) := by decide +kernel
theorem dX9_note_60 : decode cX9_note 60 = .ok (.ireturn, 1) := by decide +kernel
theorem dX9_note_61 : decode cX9_note 61 = .ok (.aload_n 0, 1) := by decide +kernel
theorem dX9_note_62 : decode cX9_note 62 = .ok (.getfield 19, 3) := by decide +kernel
theorem dX9_note_65 : decode cX9_note 65 = .ok (.getfield 106, 3) := by decide +kernel
theorem dX9_note_68 : decode cX9_note 68 = .ok (.getfield 230, 3) := by decide +kernel
theorem dX9_note_71 : decode cX9_note 71 = .ok (.iload_n 1, 1) := by decide +kernel
theorem dX9_note_72 : decode cX9_note 72 = .ok (.iaload, 1) := by decide +kernel
theorem dX9_note_73 : decode cX9_note 73 = .ok (.ireturn, 1) := by decide +kernel
theorem dX9_note_74 : decode cX9_note 74 = .ok (.aload_n 0, 1) := by decide +kernel
theorem dX9_note_75 : decode cX9_note 75 = .ok (.getfield 19, 3) := by decide +kernel
theorem dX9_note_78 : decode cX9_note 78 = .ok (.getfield 106, 3) := by decide +kernel
theorem dX9_note_81 : decode cX9_note 81 = .ok (.getfield 231, 3) := by decide +kernel
theorem dX9_note_84 : decode cX9_note 84 = .ok (.iload_n 1, 1) := by decide +kernel
theorem dX9_note_85 : decode cX9_note 85 = .ok (.iaload, 1) := by decide +kernel
theorem dX9_note_86 : decode cX9_note 86 = .ok (.ireturn, 1) := by decide +kernel
theorem dX9_note_87 : decode cX9_note 87 = .ok (.aload_n 0, 1) := by decide +kernel
theorem dX9_note_88 : decode cX9_note 88 = .ok (.iload_n 1, 1) := by decide +kernel
theorem dX9_note_89 : decode cX9_note 89 = .ok (.invokevirtual 234, 3) := by decide +kernel
theorem dX9_note_92 : decode cX9_note 92 = .ok (.ireturn, 1) := by decide +kernel
theorem dX9_like_0 : decode cX9_like 0 = .ok (.aload_n 0, 1) := by decide +kernel
theorem dX9_like_1 : decode cX9_like 1 = .ok (.iload_n 1, 1) := by decide +kernel
theorem dX9_like_2 : decode cX9_like 2 = .ok (.ifCond .lt 21, 3) := by decide +kernel
theorem dX9_like_5 : decode cX9_like 5 = .ok (.iload_n 1, 1) := by decide +kernel
theorem dX9_like_6 : decode cX9_like 6 = .ok (.aload_n 0, 1) := by decide +kernel
theorem dX9_like_7 : decode cX9_like 7 = .ok (.getfield 19, 3) := by decide +kernel
theorem dX9_like_10 : decode cX9_like 10 = .ok (.getfield 106, 3) := by decide +kernel
theorem dX9_like_13 : decode cX9_like 13 = .ok (.getfield 176, 3) := by decide +kernel
theorem dX9_like_16 : decode cX9_like 16 = .ok (.if_icmp .ge 7, 3) := by decide +kernel
theorem dX9_like_19 : decode cX9_like 19 = .ok (.iconst 1, 1) := by decide +kernel
theorem dX9_like_20 : decode cX9_like 20 = .ok (.goto 4, 3) := by decide +kernel
theorem dX9_like_23 : decode cX9_like 23 = .ok (.iconst 0, 1) := by decide +kernel
theorem dX9_like_24 : decode cX9_like 24 = .ok (.invokevirtual 209, 3) := by decide +kernel
theorem dX9_like_27 : decode cX9_like 27 = .ok (.aload_n 0, 1) := by decide +kernel
theorem dX9_like_28 : decode cX9_like 28 = .ok (.iload_n 2, 1) := by decide +kernel
theorem dX9_like_29 : decode cX9_like 29 = .ok (.iconst 0, 1) := by decide +kernel
theorem dX9_like_30 : decode cX9_like 30 = .ok (.iconst 1, 1) := by decide +kernel
theorem dX9_like_31 : decode cX9_like 31 = .ok (.invokestatic 168, 3) := by decide +kernel
theorem dX9_like_34 : decode cX9_like 34 = .ok (.invokevirtual 172, 3) := by decide +kernel
theorem dX9_like_37 : decode cX9_like 37 = .ok (.iload_n 2, 1) := by decide +kernel
theorem dX9_like_38 : decode cX9_like 38 = .ok (.ifCond .ne 18, 3) := by decide +kernel
theorem dX9_like_41 : decode cX9_like 41 = .ok (.aload_n 0, 1) := by decide +kernel
theorem dX9_like_42 : decode cX9_like 42 = .ok (.getfield 19, 3) := by decide +kernel
theorem dX9_like_45 : decode cX9_like 45 = .ok (.getfield 106, 3) := by decide +kernel
theorem dX9_like_48 : decode cX9_like 48 = .ok (.getfield 237, 3) := by decide +kernel
theorem dX9_like_51 : decode cX9_like 51 = .ok (.iload_n 1, 1) := by decide +kernel
theorem dX9_like_52 : decode cX9_like 52 = .ok (.iaload, 1) := by decide +kernel
theorem dX9_like_53 : decode cX9_like 53 = .ok (.goto 15, 3) := by decide +kernel
theorem dX9_like_56 : decode cX9_like 56 = .ok (.aload_n 0, 1) := by decide +kernel
theorem dX9_like_57 : decode cX9_like 57 = .ok (.getfield 19, 3) := by decide +kernel
theorem dX9_like_60 : decode cX9_like 60 = .ok (.getfield 106, 3) := by decide +kernel
theorem dX9_like_63 : decode cX9_like 63 = .ok (.getfield 240, 3) := by decide +kernel
theorem dX9_like_66 : decode cX9_like 66 = .ok (.iload_n 1, 1) := by decide +kernel
theorem dX9_like_67 : decode cX9_like 67 = .ok (.iaload, 1) := by decide +kernel
theorem dX9_like_68 : decode cX9_like 68 = .ok (.ireturn, 1) := by decide +kernel
theorem dX9_takes_0 : decode cX9_takes 0 = .ok (.aload_n 0, 1) := by decide +kernel
theorem dX9_takes_1 : decode cX9_takes 1 = .ok (.aload_n 0, 1) := by decide +kernel
theorem dX9_takes_2 : decode cX9_takes 2 = .ok (.iload_n 1, 1) := by decide +kernel
theorem dX9_takes_3 : decode cX9_takes 3 = .ok (.invokevirtual 224, 3) := by decide +kernel
theorem dX9_takes_6 : decode cX9_takes 6 = .ok (.ifCond .eq 15, 3) := by decide +kernel
theorem dX9_takes_9 : decode cX9_takes 9 = .ok (.aload_n 0, 1) := by decide +kernel
theorem dX9_takes_10 : decode cX9_takes 10 = .ok (.iload_n 2, 1) := by decide +kernel
theorem dX9_takes_11 : decode cX9_takes 11 = .ok (.invokevirtual 205, 3) := by decide +kernel
theorem dX9_takes_14 : decode cX9_takes 14 = .ok (.ifCond .eq 7, 3) := by decide +kernel
theorem dX9_takes_17 : decode cX9_takes 17 = .ok (.iconst 1, 1) := by decide +kernel
theorem dX9_takes_18 : decode cX9_takes 18 = .ok (.goto 4, 3) := by decide +kernel
theorem dX9_takes_21 : decode cX9_takes 21 = .ok (.iconst 0, 1) := by decide +kernel
theorem dX9_takes_22 : decode cX9_takes 22 = .ok (.invokevirtual 209, 3) := by decide +kernel
theorem dX9_takes_25 : decode cX9_takes 25 = .ok (.aload_n 0, 1) := by decide +kernel
theorem dX9_takes_26 : decode cX9_takes 26 = .ok (.getfield 19, 3) := by decide +kernel
theorem dX9_takes_29 : decode cX9_takes 29 = .ok (.aload_n 0, 1) := by decide +kernel
theorem dX9_takes_30 : decode cX9_takes 30 = .ok (.getfield 33, 3) := by decide +kernel
theorem dX9_takes_33 : decode cX9_takes 33 = .ok (.getfield 128, 3) := by decide +kernel
theorem dX9_takes_36 : decode cX9_takes 36 = .ok (.iload_n 1, 1) := by decide +kernel
theorem dX9_takes_37 : decode cX9_takes 37 = .ok (.iload_n 2, 1) := by decide +kernel
theorem dX9_takes_38 : decode cX9_takes 38 = .ok (.invokevirtual 243, 3) := by decide +kernel
theorem dX9_takes_41 : decode cX9_takes 41 = .ok (.ireturn, 1) := by decide +kernel
theorem dX9_would_0 : decode cX9_would 0 = .ok (.aload_n 0, 1) := by decide +kernel
theorem dX9_would_1 : decode cX9_would 1 = .ok (.iload_n 1, 1) := by decide +kernel
theorem dX9_would_2 : decode cX9_would 2 = .ok (.iconst 1, 1) := by decide +kernel
theorem dX9_would_3 : decode cX9_would 3 = .ok (.bipush 9, 2) := by decide +kernel
theorem dX9_would_5 : decode cX9_would 5 = .ok (.invokestatic 168, 3) := by decide +kernel
theorem dX9_would_8 : decode cX9_would 8 = .ok (.ifCond .eq 17, 3) := by decide +kernel
theorem dX9_would_11 : decode cX9_would 11 = .ok (.iload_n 2, 1) := by decide +kernel
theorem dX9_would_12 : decode cX9_would 12 = .ok (.iconst 0, 1) := by decide +kernel
theorem dX9_would_13 : decode cX9_would 13 = .ok (.bipush 60, 2) := by decide +kernel
theorem dX9_would_15 : decode cX9_would 15 = .ok (.invokestatic 168, 3) := by decide +kernel
theorem dX9_would_18 : decode cX9_would 18 = .ok (.ifCond .eq 7, 3) := by decide +kernel
theorem dX9_would_21 : decode cX9_would 21 = .ok (.iconst 1, 1) := by decide +kernel
theorem dX9_would_22 : decode cX9_would 22 = .ok (.goto 4, 3) := by decide +kernel
theorem dX9_would_25 : decode cX9_would 25 = .ok (.iconst 0, 1) := by decide +kernel
theorem dX9_would_26 : decode cX9_would 26 = .ok (.invokevirtual 172, 3) := by decide +kernel
theorem dX9_would_29 : decode cX9_would 29 = .ok (.aload_n 0, 1) := by decide +kernel
theorem dX9_would_30 : decode cX9_would 30 = .ok (.iload_n 3, 1) := by decide +kernel
theorem dX9_would_31 : decode cX9_would 31 = .ok (.iconst 0, 1) := by decide +kernel
theorem dX9_would_32 : decode cX9_would 32 = .ok (.bipush 30, 2) := by decide +kernel
theorem dX9_would_34 : decode cX9_would 34 = .ok (.invokestatic 168, 3) := by decide +kernel
theorem dX9_would_37 : decode cX9_would 37 = .ok (.ifCond .eq 19, 3) := by decide +kernel
theorem dX9_would_40 : decode cX9_would 40 = .ok (.iload 4, 2) := by decide +kernel
theorem dX9_would_42 : decode cX9_would 42 = .ok (.iconst 0, 1) := by decide +kernel
theorem dX9_would_43 : decode cX9_would 43 = .ok (.sipush 9999, 3) := by decide +kernel
theorem dX9_would_46 : decode cX9_would 46 = .ok (.invokestatic 168, 3) := by decide +kernel
theorem dX9_would_49 : decode cX9_would 49 = .ok (.ifCond .eq 7, 3) := by decide +kernel
theorem dX9_would_52 : decode cX9_would 52 = .ok (.iconst 1, 1) := by decide +kernel
theorem dX9_would_53 : decode cX9_would 53 = .ok (.goto 4, 3) := by decide +kernel
theorem dX9_would_56 : decode cX9_would 56 = .ok (.iconst 0, 1) := by decide +kernel
theorem dX9_would_57 : decode cX9_would 57 = .ok (.invokevirtual 172, 3) := by decide +kernel
theorem dX9_would_60 : decode cX9_would 60 = .ok (.aload_n 0, 1) := by decide +kernel
theorem dX9_would_61 : decode cX9_would 61 = .ok (.iload 5, 2) := by decide +kernel
theorem dX9_would_63 : decode cX9_would 63 = .ok (.iconst 0, 1) := by decide +kernel
theorem dX9_would_64 : decode cX9_would 64 = .ok (.bipush 19, 2) := by decide +kernel
theorem dX9_would_66 : decode cX9_would 66 = .ok (.invokestatic 168, 3) := by decide +kernel
theorem dX9_would_69 : decode cX9_would 69 = .ok (.ifCond .eq 15, 3) := by decide +kernel
theorem dX9_would_72 : decode cX9_would 72 = .ok (.iload 6, 2) := by decide +kernel
theorem dX9_would_74 : decode cX9_would 74 = .ok (.invokestatic 247, 3) := by decide +kernel
theorem dX9_would_77 : decode cX9_would 77 = .ok (.ifCond .eq 7, 3) := by decide +kernel
theorem dX9_would_80 : decode cX9_would 80 = .ok (.iconst 1, 1) := by decide +kernel
theorem dX9_would_81 : decode cX9_would 81 = .ok (.goto 4, 3) := by decide +kernel
theorem dX9_would_84 : decode cX9_would 84 = .ok (.iconst 0, 1) := by decide +kernel
theorem dX9_would_85 : decode cX9_would 85 = .ok (.invokevirtual 172, 3) := by decide +kernel
theorem dX9_would_88 : decode cX9_would 88 = .ok (.aload_n 0, 1) := by decide +kernel
theorem dX9_would_89 : decode cX9_would 89 = .ok (.iload 7, 2) := by decide +kernel
theorem dX9_would_91 : decode cX9_would 91 = .ok (.iconst 0, 1) := by decide +kernel
theorem dX9_would_92 : decode cX9_would 92 = .ok (.sipush 400, 3) := by decide +kernel
theorem dX9_would_95 : decode cX9_would 95 = .ok (.invokestatic 168, 3) := by decide +kernel
theorem dX9_would_98 : decode cX9_would 98 = .ok (.ifCond .eq 18, 3) := by decide +kernel
theorem dX9_would_101 : decode cX9_would 101 = .ok (.iload 8, 2) := by decide +kernel
theorem dX9_would_103 : decode cX9_would 103 = .ok (.iconst 0, 1) := by decide +kernel
theorem dX9_would_104 : decode cX9_would 104 = .ok (.bipush 6, 2) := by decide +kernel
theorem dX9_would_106 : decode cX9_would 106 = .ok (.invokestatic 168, 3) := by decide +kernel
theorem dX9_would_109 : decode cX9_would 109 = .ok (.ifCond .eq 7, 3) := by decide +kernel
theorem dX9_would_112 : decode cX9_would 112 = .ok (.iconst 1, 1) := by decide +kernel
theorem dX9_would_113 : decode cX9_would 113 = .ok (.goto 4, 3) := by decide +kernel
theorem dX9_would_116 : decode cX9_would 116 = .ok (.iconst 0, 1) := by decide +kernel
theorem dX9_would_117 : decode cX9_would 117 = .ok (.invokevirtual 172, 3) := by decide +kernel
theorem dX9_would_120 : decode cX9_would 120 = .ok (.aload_n 0, 1) := by decide +kernel
theorem dX9_would_121 : decode cX9_would 121 = .ok (.getfield 19, 3) := by decide +kernel
theorem dX9_would_124 : decode cX9_would 124 = .ok (.getfield 116, 3) := by decide +kernel
theorem dX9_would_127 : decode cX9_would 127 = .ok (.getfield 250, 3) := by decide +kernel
theorem dX9_would_130 : decode cX9_would 130 = .ok (.astore 9, 2) := by decide +kernel
theorem dX9_would_132 : decode cX9_would 132 = .ok (.aload 9, 2) := by decide +kernel
theorem dX9_would_134 : decode cX9_would 134 = .ok (.iconst 0, 1) := by decide +kernel
theorem dX9_would_135 : decode cX9_would 135 = .ok (.iload_n 1, 1) := by decide +kernel
theorem dX9_would_136 : decode cX9_would 136 = .ok (.iastore, 1) := by decide +kernel
theorem dX9_would_137 : decode cX9_would 137 = .ok (.aload 9, 2) := by decide +kernel
theorem dX9_would_139 : decode cX9_would 139 = .ok (.iconst 1, 1) := by decide +kernel
theorem dX9_would_140 : decode cX9_would 140 = .ok (.iload_n 2, 1) := by decide +kernel
theorem dX9_would_141 : decode cX9_would 141 = .ok (.iastore, 1) := by decide +kernel
theorem dX9_would_142 : decode cX9_would 142 = .ok (.aload 9, 2) := by decide +kernel
theorem dX9_would_144 : decode cX9_would 144 = .ok (.iconst 2, 1) := by decide +kernel
theorem dX9_would_145 : decode cX9_would 145 = .ok (.iload_n 3, 1) := by decide +kernel
theorem dX9_would_146 : decode cX9_would 146 = .ok (.iastore, 1) := by decide +kernel
theorem dX9_would_147 : decode cX9_would 147 = .ok (.aload 9, 2) := by decide +kernel
theorem dX9_would_149 : decode cX9_would 149 = .ok (.iconst 3, 1) := by decide +kernel
theorem dX9_would_150 : decode cX9_would 150 = .ok (.iload 4, 2) := by decide +kernel
theorem dX9_would_152 : decode cX9_would 152 = .ok (.iastore, 1) := by decide +kernel
theorem dX9_would_153 : decode cX9_would 153 = .ok (.aload 9, 2) := by decide +kernel
theorem dX9_would_155 : decode cX9_would 155 = .ok (.iconst 4, 1) := by decide +kernel
theorem dX9_would_156 : decode cX9_would 156 = .ok (.iload 5, 2) := by decide +kernel
theorem dX9_would_158 : decode cX9_would 158 = .ok (.iastore, 1) := by decide +kernel
theorem dX9_would_159 : decode cX9_would 159 = .ok (.aload 9, 2) := by decide +kernel
theorem dX9_would_161 : decode cX9_would 161 = .ok (.iconst 5, 1) := by decide +kernel
theorem dX9_would_162 : decode cX9_would 162 = .ok (.iload 6, 2) := by decide +kernel
theorem dX9_would_164 : decode cX9_would 164 = .ok (.iastore, 1) := by decide +kernel
theorem dX9_would_165 : decode cX9_would 165 = .ok (.aload 9, 2) := by decide +kernel
theorem dX9_would_167 : decode cX9_would 167 = .ok (.bipush 6, 2) := by decide +kernel
theorem dX9_would_169 : decode cX9_would 169 = .ok (.iload 7, 2) := by decide +kernel
theorem dX9_would_171 : decode cX9_would 171 = .ok (.iastore, 1) := by decide +kernel
theorem dX9_would_172 : decode cX9_would 172 = .ok (.aload 9, 2) := by decide +kernel
theorem dX9_would_174 : decode cX9_would 174 = .ok (.bipush 7, 2) := by decide +kernel
theorem dX9_would_176 : decode cX9_would 176 = .ok (.iload 8, 2) := by decide +kernel
theorem dX9_would_178 : decode cX9_would 178 = .ok (.iastore, 1) := by decide +kernel
theorem dX9_would_179 : decode cX9_would 179 = .ok (.aload_n 0, 1) := by decide +kernel
theorem dX9_would_180 : decode cX9_would 180 = .ok (.getfield 19, 3) := by decide +kernel
theorem dX9_would_183 : decode cX9_would 183 = .ok (.getfield 116, 3) := by decide +kernel
theorem dX9_would_186 : decode cX9_would 186 = .ok (.invokevirtual 253, 3) := by decide +kernel
theorem dX9_would_189 : decode cX9_would 189 = .ok (.ireturn, 1) := by decide +kernel
theorem dX9_ahead_0 : decode cX9_ahead 0 = .ok (.aload_n 0, 1) := by decide +kernel
theorem dX9_ahead_1 : decode cX9_ahead 1 = .ok (.iload_n 1, 1) := by decide +kernel
theorem dX9_ahead_2 : decode cX9_ahead 2 = .ok (.iconst 0, 1) := by decide +kernel
theorem dX9_ahead_3 : decode cX9_ahead 3 = .ok (.bipush 20, 2) := by decide +kernel
theorem dX9_ahead_5 : decode cX9_ahead 5 = .ok (.invokestatic 168, 3) := by decide +kernel
theorem dX9_ahead_8 : decode cX9_ahead 8 = .ok (.ifCond .eq 16, 3) := by decide +kernel
theorem dX9_ahead_11 : decode cX9_ahead 11 = .ok (.iload_n 2, 1) := by decide +kernel
theorem dX9_ahead_12 : decode cX9_ahead 12 = .ok (.iconst 0, 1) := by decide +kernel
theorem dX9_ahead_13 : decode cX9_ahead 13 = .ok (.iconst 2, 1) := by decide +kernel
theorem dX9_ahead_14 : decode cX9_ahead 14 = .ok (.invokestatic 168, 3) := by decide +kernel
theorem dX9_ahead_17 : decode cX9_ahead 17 = .ok (.ifCond .eq 7, 3) := by decide +kernel
theorem dX9_ahead_20 : decode cX9_ahead 20 = .ok (.iconst 1, 1) := by decide +kernel
theorem dX9_ahead_21 : decode cX9_ahead 21 = .ok (.goto 4, 3) := by decide +kernel
theorem dX9_ahead_24 : decode cX9_ahead 24 = .ok (.iconst 0, 1) := by decide +kernel
theorem dX9_ahead_25 : decode cX9_ahead 25 = .ok (.invokevirtual 172, 3) := by decide +kernel
theorem dX9_ahead_28 : decode cX9_ahead 28 = .ok (.aload_n 0, 1) := by decide +kernel
theorem dX9_ahead_29 : decode cX9_ahead 29 = .ok (.getfield 44, 3) := by decide +kernel
theorem dX9_ahead_32 : decode cX9_ahead 32 = .ok (.aload_n 0, 1) := by decide +kernel
theorem dX9_ahead_33 : decode cX9_ahead 33 = .ok (.getfield 33, 3) := by decide +kernel
theorem dX9_ahead_36 : decode cX9_ahead 36 = .ok (.getfield 128, 3) := by decide +kernel
theorem dX9_ahead_39 : decode cX9_ahead 39 = .ok (.invokevirtual 256, 3) := by decide +kernel
theorem dX9_ahead_42 : decode cX9_ahead 42 = .ok (.iconst 0, 1) := by decide +kernel
theorem dX9_ahead_43 : decode cX9_ahead 43 = .ok (.istore_n 3, 1) := by decide +kernel
theorem dX9_ahead_44 : decode cX9_ahead 44 = .ok (.iload_n 3, 1) := by decide +kernel
theorem dX9_ahead_45 : decode cX9_ahead 45 = .ok (.iload_n 1, 1) := by decide +kernel
theorem dX9_ahead_46 : decode cX9_ahead 46 = .ok (.if_icmp .ge 21, 3) := by decide +kernel
theorem dX9_ahead_49 : decode cX9_ahead 49 = .ok (.aload_n 0, 1) := by decide +kernel
theorem dX9_ahead_50 : decode cX9_ahead 50 = .ok (.getfield 19, 3) := by decide +kernel
theorem dX9_ahead_53 : decode cX9_ahead 53 = .ok (.aload_n 0, 1) := by decide +kernel
theorem dX9_ahead_54 : decode cX9_ahead 54 = .ok (.getfield 44, 3) := by decide +kernel
theorem dX9_ahead_57 : decode cX9_ahead 57 = .ok (.invokevirtual 260, 3) := by decide +kernel
theorem dX9_ahead_60 : decode cX9_ahead 60 = .ok (.pop, 1) := by decide +kernel
theorem dX9_ahead_61 : decode cX9_ahead 61 = .ok (.iinc 3 1, 3) := by decide +kernel
theorem dX9_ahead_64 : decode cX9_ahead 64 = .ok (.goto (-20), 3) := by decide +kernel
theorem dX9_ahead_67 : decode cX9_ahead 67 = .ok (.iload_n 2, 1) := by decide +kernel
theorem dX9_ahead_68 : decode cX9_ahead 68 = .ok (.lookupswitch 58 #[(0, 28), (1, 47)], 28) := by decide +kernel
theorem dX9_ahead_96 : decode cX9_ahead 96 = .ok (.aload_n 0, 1) := by decide +kernel
theorem dX9_ahead_97 : decode cX9_ahead 97 = .ok (.getfield 44, 3) := by decide +kernel
theorem dX9_ahead_100 : decode cX9_ahead 100 = .ok (.getfield 185, 3) := by decide +kernel
theorem dX9_ahead_103 : decode cX9_ahead 103 = .ok (.aload_n 0, 1) := by decide +kernel
theorem dX9_ahead_104 : decode cX9_ahead 104 = .ok (.getfield 33, 3) := by decide +kernel
theorem dX9_ahead_107 : decode cX9_ahead 107 = .ok (.getfield 128, 3) := by decide +kernel
theorem dX9_ahead_110 : decode cX9_ahead 110 = .ok (.getfield 185, 3) := by decide +kernel
theorem dX9_ahead_113 : decode cX9_ahead 113 = .ok (.isub, 1) := by decide +kernel
theorem dX9_ahead_114 : decode cX9_ahead 114 = .ok (.ireturn, 1) := by decide +kernel
theorem dX9_ahead_115 : decode cX9_ahead 115 = .ok (.aload_n 0, 1) := by decide +kernel
theorem dX9_ahead_116 : decode cX9_ahead 116 = .ok (.getfield 44, 3) := by decide +kernel
theorem dX9_ahead_119 : decode cX9_ahead 119 = .ok (.getfield 198, 3) := by decide +kernel
theorem dX9_ahead_122 : decode cX9_ahead 122 = .ok (.invokestatic 191, 3) := by decide +kernel
theorem dX9_ahead_125 : decode cX9_ahead 125 = .ok (.ireturn, 1) := by decide +kernel
theorem dX9_ahead_126 : decode cX9_ahead 126 = .ok (.aload_n 0, 1) := by decide +kernel
theorem dX9_ahead_127 : decode cX9_ahead 127 = .ok (.aload_n 0, 1) := by decide +kernel
theorem dX9_ahead_128 : decode cX9_ahead 128 = .ok (.getfield 44, 3) := by decide +kernel
theorem dX9_ahead_131 : decode cX9_ahead 131 = .ok (.invokevirtual 264, 3) := by decide +kernel
theorem dX9_ahead_134 : decode cX9_ahead 134 = .ok (.ireturn, 1) := by decide +kernel
theorem dX9_cast_0 : decode cX9_cast 0 = .ok (.iconst (-1), 1) := by decide +kernel
theorem dX9_cast_1 : decode cX9_cast 1 = .ok (.istore_n 1, 1) := by decide +kernel
theorem dX9_cast_2 : decode cX9_cast 2 = .ok (.iconst 1, 1) := by decide +kernel
theorem dX9_cast_3 : decode cX9_cast 3 = .ok (.aload_n 0, 1) := by decide +kernel
theorem dX9_cast_4 : decode cX9_cast 4 = .ok (.getfield 19, 3) := by decide +kernel
theorem dX9_cast_7 : decode cX9_cast 7 = .ok (.getfield 106, 3) := by decide +kernel
theorem dX9_cast_10 : decode cX9_cast 10 = .ok (.getfield 112, 3) := by decide +kernel
theorem dX9_cast_13 : decode cX9_cast 13 = .ok (.ishl, 1) := by decide +kernel
theorem dX9_cast_14 : decode cX9_cast 14 = .ok (.istore_n 2, 1) := by decide +kernel
theorem dX9_cast_15 : decode cX9_cast 15 = .ok (.iconst 0, 1) := by decide +kernel
theorem dX9_cast_16 : decode cX9_cast 16 = .ok (.istore_n 3, 1) := by decide +kernel
theorem dX9_cast_17 : decode cX9_cast 17 = .ok (.iload_n 3, 1) := by decide +kernel
theorem dX9_cast_18 : decode cX9_cast 18 = .ok (.iload_n 2, 1) := by decide +kernel
theorem dX9_cast_19 : decode cX9_cast 19 = .ok (.if_icmp .ge 28, 3) := by decide +kernel
theorem dX9_cast_22 : decode cX9_cast 22 = .ok (.aload_n 0, 1) := by decide +kernel
theorem dX9_cast_23 : decode cX9_cast 23 = .ok (.iload_n 3, 1) := by decide +kernel
theorem dX9_cast_24 : decode cX9_cast 24 = .ok (.iload_n 1, 1) := by decide +kernel
theorem dX9_cast_25 : decode cX9_cast 25 = .ok (.invokevirtual 267, 3) := by decide +kernel
theorem dX9_cast_28 : decode cX9_cast 28 = .ok (.ifCond .eq 13, 3) := by decide +kernel
theorem dX9_cast_31 : decode cX9_cast 31 = .ok (.aload_n 0, 1) := by decide +kernel
theorem dX9_cast_32 : decode cX9_cast 32 = .ok (.iload_n 3, 1) := by decide +kernel
theorem dX9_cast_33 : decode cX9_cast 33 = .ok (.invokevirtual 271, 3) := by decide +kernel
theorem dX9_cast_36 : decode cX9_cast 36 = .ok (.ifCond .eq 5, 3) := by decide +kernel
theorem dX9_cast_39 : decode cX9_cast 39 = .ok (.iload_n 3, 1) := by decide +kernel
theorem dX9_cast_40 : decode cX9_cast 40 = .ok (.istore_n 1, 1) := by decide +kernel
theorem dX9_cast_41 : decode cX9_cast 41 = .ok (.iinc 3 1, 3) := by decide +kernel
theorem dX9_cast_44 : decode cX9_cast 44 = .ok (.goto (-27), 3) := by decide +kernel
theorem dX9_cast_47 : decode cX9_cast 47 = .ok (.iload_n 1, 1) := by decide +kernel
theorem dX9_cast_48 : decode cX9_cast 48 = .ok (.ireturn, 1) := by decide +kernel
theorem dX9_handed_0 : decode cX9_handed 0 = .ok (.aload_n 0, 1) := by decide +kernel
theorem dX9_handed_1 : decode cX9_handed 1 = .ok (.iload_n 1, 1) := by decide +kernel
theorem dX9_handed_2 : decode cX9_handed 2 = .ok (.invokestatic 247, 3) := by decide +kernel
theorem dX9_handed_5 : decode cX9_handed 5 = .ok (.ifCond .eq 14, 3) := by decide +kernel
theorem dX9_handed_8 : decode cX9_handed 8 = .ok (.iload_n 2, 1) := by decide +kernel
theorem dX9_handed_9 : decode cX9_handed 9 = .ok (.invokestatic 247, 3) := by decide +kernel
theorem dX9_handed_12 : decode cX9_handed 12 = .ok (.ifCond .eq 7, 3) := by decide +kernel
theorem dX9_handed_15 : decode cX9_handed 15 = .ok (.iconst 1, 1) := by decide +kernel
theorem dX9_handed_16 : decode cX9_handed 16 = .ok (.goto 4, 3) := by decide +kernel
theorem dX9_handed_19 : decode cX9_handed 19 = .ok (.iconst 0, 1) := by decide +kernel
theorem dX9_handed_20 : decode cX9_handed 20 = .ok (.invokevirtual 172, 3) := by decide +kernel
theorem dX9_handed_23 : decode cX9_handed 23 = .ok (.aload_n 0, 1) := by decide +kernel
theorem dX9_handed_24 : decode cX9_handed 24 = .ok (.iload_n 1, 1) := by decide +kernel
theorem dX9_handed_25 : decode cX9_handed 25 = .ok (.iload_n 2, 1) := by decide +kernel
theorem dX9_handed_26 : decode cX9_handed 26 = .ok (.invokevirtual 274, 3) := by decide +kernel
theorem dX9_handed_29 : decode cX9_handed 29 = .ok (.ireturn, 1) := by decide +kernel
theorem dX9_bench_0 : decode cX9_bench 0 = .ok (.aload_n 0, 1) := by decide +kernel
theorem dX9_bench_1 : decode cX9_bench 1 = .ok (.invokevirtual 278, 3) := by decide +kernel
theorem dX9_bench_4 : decode cX9_bench 4 = .ok (.aload_n 0, 1) := by decide +kernel
theorem dX9_bench_5 : decode cX9_bench 5 = .ok (.getfield 51, 3) := by decide +kernel
theorem dX9_bench_8 : decode cX9_bench 8 = .ok (.invokevirtual 281, 3) := by decide +kernel
theorem dX9_bench_11 : decode cX9_bench 11 = .ok (.ireturn, 1) := by decide +kernel
theorem dX9_benched_0 : decode cX9_benched 0 = .ok (.aload_n 0, 1) := by decide +kernel
theorem dX9_benched_1 : decode cX9_benched 1 = .ok (.iload_n 1, 1) := by decide +kernel
theorem dX9_benched_2 : decode cX9_benched 2 = .ok (.ifCond .lt 7, 3) := by decide +kernel
theorem dX9_benched_5 : decode cX9_benched 5 = .ok (.iconst 1, 1) := by decide +kernel
theorem dX9_benched_6 : decode cX9_benched 6 = .ok (.goto 4, 3) := by decide +kernel
theorem dX9_benched_9 : decode cX9_benched 9 = .ok (.iconst 0, 1) := by decide +kernel
theorem dX9_benched_10 : decode cX9_benched 10 = .ok (.invokevirtual 172, 3) := by decide +kernel
theorem dX9_benched_13 : decode cX9_benched 13 = .ok (.iload_n 1, 1) := by decide +kernel
theorem dX9_benched_14 : decode cX9_benched 14 = .ok (.aload_n 0, 1) := by decide +kernel
theorem dX9_benched_15 : decode cX9_benched 15 = .ok (.getfield 19, 3) := by decide +kernel
theorem dX9_benched_18 : decode cX9_benched 18 = .ok (.getfield 106, 3) := by decide +kernel
theorem dX9_benched_21 : decode cX9_benched 21 = .ok (.getfield 112, 3) := by decide +kernel
theorem dX9_benched_24 : decode cX9_benched 24 = .ok (.if_icmp .lt 5, 3) := by decide +kernel
theorem dX9_benched_27 : decode cX9_benched 27 = .ok (.iconst (-1), 1) := by decide +kernel
theorem dX9_benched_28 : decode cX9_benched 28 = .ok (.ireturn, 1) := by decide +kernel
theorem dX9_benched_29 : decode cX9_benched 29 = .ok (.aload_n 0, 1) := by decide +kernel
theorem dX9_benched_30 : decode cX9_benched 30 = .ok (.invokevirtual 278, 3) := by decide +kernel
theorem dX9_benched_33 : decode cX9_benched 33 = .ok (.aload_n 0, 1) := by decide +kernel
theorem dX9_benched_34 : decode cX9_benched 34 = .ok (.getfield 51, 3) := by decide +kernel
theorem dX9_benched_37 : decode cX9_benched 37 = .ok (.iload_n 1, 1) := by decide +kernel
theorem dX9_benched_38 : decode cX9_benched 38 = .ok (.invokevirtual 284, 3) := by decide +kernel
theorem dX9_benched_41 : decode cX9_benched 41 = .ok (.ireturn, 1) := by decide +kernel
theorem dX9_wording_0 : decode cX9_wording 0 = .ok (.iconst (-1), 1) := by decide +kernel
theorem dX9_wording_1 : decode cX9_wording 1 = .ok (.istore_n 1, 1) := by decide +kernel
theorem dX9_wording_2 : decode cX9_wording 2 = .ok (.iconst 0, 1) := by decide +kernel
theorem dX9_wording_3 : decode cX9_wording 3 = .ok (.istore_n 2, 1) := by decide +kernel
theorem dX9_wording_4 : decode cX9_wording 4 = .ok (.iload_n 2, 1) := by decide +kernel
theorem dX9_wording_5 : decode cX9_wording 5 = .ok (.bipush 64, 2) := by decide +kernel
theorem dX9_wording_7 : decode cX9_wording 7 = .ok (.if_icmp .ge 47, 3) := by decide +kernel
theorem dX9_wording_10 : decode cX9_wording 10 = .ok (.iload_n 1, 1) := by decide +kernel
theorem dX9_wording_11 : decode cX9_wording 11 = .ok (.iconst (-1), 1) := by decide +kernel
theorem dX9_wording_12 : decode cX9_wording 12 = .ok (.if_icmp .eq 14, 3) := by decide +kernel
theorem dX9_wording_15 : decode cX9_wording 15 = .ok (.iload_n 2, 1) := by decide +kernel
theorem dX9_wording_16 : decode cX9_wording 16 = .ok (.invokestatic 156, 3) := by decide +kernel
theorem dX9_wording_19 : decode cX9_wording 19 = .ok (.iload_n 1, 1) := by decide +kernel
theorem dX9_wording_20 : decode cX9_wording 20 = .ok (.invokestatic 156, 3) := by decide +kernel
theorem dX9_wording_23 : decode cX9_wording 23 = .ok (.if_icmp .ge 7, 3) := by decide +kernel
theorem dX9_wording_26 : decode cX9_wording 26 = .ok (.iconst 1, 1) := by decide +kernel
theorem dX9_wording_27 : decode cX9_wording 27 = .ok (.goto 4, 3) := by decide +kernel
theorem dX9_wording_30 : decode cX9_wording 30 = .ok (.iconst 0, 1) := by decide +kernel
theorem dX9_wording_31 : decode cX9_wording 31 = .ok (.istore_n 3, 1) := by decide +kernel
theorem dX9_wording_32 : decode cX9_wording 32 = .ok (.iload_n 3, 1) := by decide +kernel
theorem dX9_wording_33 : decode cX9_wording 33 = .ok (.ifCond .eq 15, 3) := by decide +kernel
theorem dX9_wording_36 : decode cX9_wording 36 = .ok (.aload_n 0, 1) := by decide +kernel
theorem dX9_wording_37 : decode cX9_wording 37 = .ok (.iload_n 2, 1) := by decide +kernel
theorem dX9_wording_38 : decode cX9_wording 38 = .ok (.invokevirtual 287, 3) := by decide +kernel
theorem dX9_wording_41 : decode cX9_wording 41 = .ok (.lconst 0, 1) := by decide +kernel
theorem dX9_wording_42 : decode cX9_wording 42 = .ok (.lcmp, 1) := by decide +kernel
theorem dX9_wording_43 : decode cX9_wording 43 = .ok (.ifCond .le 5, 3) := by decide +kernel
theorem dX9_wording_46 : decode cX9_wording 46 = .ok (.iload_n 2, 1) := by decide +kernel
theorem dX9_wording_47 : decode cX9_wording 47 = .ok (.istore_n 1, 1) := by decide +kernel
theorem dX9_wording_48 : decode cX9_wording 48 = .ok (.iinc 2 1, 3) := by decide +kernel
theorem dX9_wording_51 : decode cX9_wording 51 = .ok (.goto (-47), 3) := by decide +kernel
theorem dX9_wording_54 : decode cX9_wording 54 = .ok (.iload_n 1, 1) := by decide +kernel
theorem dX9_wording_55 : decode cX9_wording 55 = .ok (.ireturn, 1) := by decide +kernel
theorem dX9_wordings_0 : decode cX9_wordings 0 = .ok (.aload_n 0, 1) := by decide +kernel
theorem dX9_wordings_1 : decode cX9_wordings 1 = .ok (.iload_n 1, 1) := by decide +kernel
theorem dX9_wordings_2 : decode cX9_wordings 2 = .ok (.iconst 0, 1) := by decide +kernel
theorem dX9_wordings_3 : decode cX9_wordings 3 = .ok (.bipush 63, 2) := by decide +kernel
theorem dX9_wordings_5 : decode cX9_wordings 5 = .ok (.invokestatic 168, 3) := by decide +kernel
theorem dX9_wordings_8 : decode cX9_wordings 8 = .ok (.invokevirtual 172, 3) := by decide +kernel
theorem dX9_wordings_11 : decode cX9_wordings 11 = .ok (.aload_n 0, 1) := by decide +kernel
theorem dX9_wordings_12 : decode cX9_wordings 12 = .ok (.iload_n 1, 1) := by decide +kernel
theorem dX9_wordings_13 : decode cX9_wordings 13 = .ok (.invokevirtual 287, 3) := by decide +kernel
theorem dX9_wordings_16 : decode cX9_wordings 16 = .ok (.lreturn, 1) := by decide +kernel
theorem dX9_who_0 : decode cX9_who 0 = .ok (.aload_n 0, 1) := by decide +kernel
theorem dX9_who_1 : decode cX9_who 1 = .ok (.iload_n 1, 1) := by decide +kernel
theorem dX9_who_2 : decode cX9_who 2 = .ok (.iconst 0, 1) := by decide +kernel
theorem dX9_who_3 : decode cX9_who 3 = .ok (.iconst 1, 1) := by decide +kernel
theorem dX9_who_4 : decode cX9_who 4 = .ok (.invokestatic 168, 3) := by decide +kernel
theorem dX9_who_7 : decode cX9_who 7 = .ok (.invokevirtual 172, 3) := by decide +kernel
theorem dX9_who_10 : decode cX9_who 10 = .ok (.iconst 0, 1) := by decide +kernel
theorem dX9_who_11 : decode cX9_who 11 = .ok (.istore_n 2, 1) := by decide +kernel
theorem dX9_who_12 : decode cX9_who 12 = .ok (.iconst (-1), 1) := by decide +kernel
theorem dX9_who_13 : decode cX9_who 13 = .ok (.istore_n 3, 1) := by decide +kernel
theorem dX9_who_14 : decode cX9_who 14 = .ok (.iconst 1, 1) := by decide +kernel
theorem dX9_who_15 : decode cX9_who 15 = .ok (.aload_n 0, 1) := by decide +kernel
theorem dX9_who_16 : decode cX9_who 16 = .ok (.getfield 19, 3) := by decide +kernel
theorem dX9_who_19 : decode cX9_who 19 = .ok (.getfield 106, 3) := by decide +kernel
theorem dX9_who_22 : decode cX9_who 22 = .ok (.getfield 112, 3) := by decide +kernel
theorem dX9_who_25 : decode cX9_who 25 = .ok (.ishl, 1) := by decide +kernel
theorem dX9_who_26 : decode cX9_who 26 = .ok (.istore 4, 2) := by decide +kernel
theorem dX9_who_28 : decode cX9_who 28 = .ok (.iconst 0, 1) := by decide +kernel
theorem dX9_who_29 : decode cX9_who 29 = .ok (.istore 5, 2) := by decide +kernel
theorem dX9_who_31 : decode cX9_who 31 = .ok (.iload 5, 2) := by decide +kernel
theorem dX9_who_33 : decode cX9_who 33 = .ok (.iload 4, 2) := by decide +kernel
theorem dX9_who_35 : decode cX9_who 35 = .ok (.if_icmp .ge 51, 3) := by decide +kernel
theorem dX9_who_38 : decode cX9_who 38 = .ok (.aload_n 0, 1) := by decide +kernel
theorem dX9_who_39 : decode cX9_who 39 = .ok (.getfield 76, 3) := by decide +kernel
theorem dX9_who_42 : decode cX9_who 42 = .ok (.aload_n 0, 1) := by decide +kernel
theorem dX9_who_43 : decode cX9_who 43 = .ok (.iload 5, 2) := by decide +kernel
theorem dX9_who_45 : decode cX9_who 45 = .ok (.invokevirtual 291, 3) := by decide +kernel
theorem dX9_who_48 : decode cX9_who 48 = .ok (.invokevirtual 294, 3) := by decide +kernel
theorem dX9_who_51 : decode cX9_who 51 = .ok (.ifCond .ne 6, 3) := by decide +kernel
theorem dX9_who_54 : decode cX9_who 54 = .ok (.goto 26, 3) := by decide +kernel
theorem dX9_who_57 : decode cX9_who 57 = .ok (.iinc 2 1, 3) := by decide +kernel
theorem dX9_who_60 : decode cX9_who 60 = .ok (.iload_n 3, 1) := by decide +kernel
theorem dX9_who_61 : decode cX9_who 61 = .ok (.iconst (-1), 1) := by decide +kernel
theorem dX9_who_62 : decode cX9_who 62 = .ok (.if_icmp .eq 15, 3) := by decide +kernel
theorem dX9_who_65 : decode cX9_who 65 = .ok (.iload 5, 2) := by decide +kernel
theorem dX9_who_67 : decode cX9_who 67 = .ok (.invokestatic 156, 3) := by decide +kernel
theorem dX9_who_70 : decode cX9_who 70 = .ok (.iload_n 3, 1) := by decide +kernel
theorem dX9_who_71 : decode cX9_who 71 = .ok (.invokestatic 156, 3) := by decide +kernel
theorem dX9_who_74 : decode cX9_who 74 = .ok (.if_icmp .ge 6, 3) := by decide +kernel
theorem dX9_who_77 : decode cX9_who 77 = .ok (.iload 5, 2) := by decide +kernel
theorem dX9_who_79 : decode cX9_who 79 = .ok (.istore_n 3, 1) := by decide +kernel
theorem dX9_who_80 : decode cX9_who 80 = .ok (.iinc 5 1, 3) := by decide +kernel
theorem dX9_who_83 : decode cX9_who 83 = .ok (.goto (-52), 3) := by decide +kernel
theorem dX9_who_86 : decode cX9_who 86 = .ok (.iload_n 1, 1) := by decide +kernel
theorem dX9_who_87 : decode cX9_who 87 = .ok (.ifCond .ne 7, 3) := by decide +kernel
theorem dX9_who_90 : decode cX9_who 90 = .ok (.iload_n 2, 1) := by decide +kernel
theorem dX9_who_91 : decode cX9_who 91 = .ok (.goto 4, 3) := by decide +kernel
theorem dX9_who_94 : decode cX9_who 94 = .ok (.iload_n 3, 1) := by decide +kernel
theorem dX9_who_95 : decode cX9_who 95 = .ok (.ireturn, 1) := by decide +kernel
theorem dX9_listen_0 : decode cX9_listen 0 = .ok (.aload_n 0, 1) := by decide +kernel
theorem dX9_listen_1 : decode cX9_listen 1 = .ok (.iload_n 1, 1) := by decide +kernel
theorem dX9_listen_2 : decode cX9_listen 2 = .ok (.iconst 0, 1) := by decide +kernel
theorem dX9_listen_3 : decode cX9_listen 3 = .ok (.iconst 1, 1) := by decide +kernel
theorem dX9_listen_4 : decode cX9_listen 4 = .ok (.invokestatic 168, 3) := by decide +kernel
theorem dX9_listen_7 : decode cX9_listen 7 = .ok (.invokevirtual 172, 3) := by decide +kernel
theorem dX9_listen_10 : decode cX9_listen 10 = .ok (.aload_n 0, 1) := by decide +kernel
theorem dX9_listen_11 : decode cX9_listen 11 = .ok (.invokevirtual 297, 3) := by decide +kernel
theorem dX9_listen_14 : decode cX9_listen 14 = .ok (.istore_n 2, 1) := by decide +kernel
theorem dX9_listen_15 : decode cX9_listen 15 = .ok (.iconst (-1), 1) := by decide +kernel
theorem dX9_listen_16 : decode cX9_listen 16 = .ok (.istore_n 3, 1) := by decide +kernel
theorem dX9_listen_17 : decode cX9_listen 17 = .ok (.iconst (-1), 1) := by decide +kernel
theorem dX9_listen_18 : decode cX9_listen 18 = .ok (.istore 4, 2) := by decide +kernel
theorem dX9_listen_20 : decode cX9_listen 20 = .ok (.iconst 0, 1) := by decide +kernel
theorem dX9_listen_21 : decode cX9_listen 21 = .ok (.istore 5, 2) := by decide +kernel
theorem dX9_listen_23 : decode cX9_listen 23 = .ok (.iload 5, 2) := by decide +kernel
theorem dX9_listen_25 : decode cX9_listen 25 = .ok (.aload_n 0, 1) := by decide +kernel
theorem dX9_listen_26 : decode cX9_listen 26 = .ok (.getfield 19, 3) := by decide +kernel
theorem dX9_listen_29 : decode cX9_listen 29 = .ok (.getfield 106, 3) := by decide +kernel
theorem dX9_listen_32 : decode cX9_listen 32 = .ok (.getfield 147, 3) := by decide +kernel
theorem dX9_listen_35 : decode cX9_listen 35 = .ok (.if_icmp .ge 76, 3) := by decide +kernel
theorem dX9_listen_38 : decode cX9_listen 38 = .ok (.aload_n 0, 1) := by decide +kernel
theorem dX9_listen_39 : decode cX9_listen 39 = .ok (.getfield 55, 3) := by decide +kernel
theorem dX9_listen_42 : decode cX9_listen 42 = .ok (.iload 5, 2) := by decide +kernel
theorem dX9_listen_44 : decode cX9_listen 44 = .ok (.iaload, 1) := by decide +kernel
theorem dX9_listen_45 : decode cX9_listen 45 = .ok (.iload_n 2, 1) := by decide +kernel
theorem dX9_listen_46 : decode cX9_listen 46 = .ok (.aload_n 0, 1) := by decide +kernel
theorem dX9_listen_47 : decode cX9_listen 47 = .ok (.getfield 55, 3) := by decide +kernel
theorem dX9_listen_50 : decode cX9_listen 50 = .ok (.iload 5, 2) := by decide +kernel
theorem dX9_listen_52 : decode cX9_listen 52 = .ok (.iaload, 1) := by decide +kernel
theorem dX9_listen_53 : decode cX9_listen 53 = .ok (.isub, 1) := by decide +kernel
theorem dX9_listen_54 : decode cX9_listen 54 = .ok (.invokestatic 300, 3) := by decide +kernel
theorem dX9_listen_57 : decode cX9_listen 57 = .ok (.istore 6, 2) := by decide +kernel
theorem dX9_listen_59 : decode cX9_listen 59 = .ok (.aload_n 0, 1) := by decide +kernel
theorem dX9_listen_60 : decode cX9_listen 60 = .ok (.getfield 76, 3) := by decide +kernel
theorem dX9_listen_63 : decode cX9_listen 63 = .ok (.getfield 153, 3) := by decide +kernel
theorem dX9_listen_66 : decode cX9_listen 66 = .ok (.iload 5, 2) := by decide +kernel
theorem dX9_listen_68 : decode cX9_listen 68 = .ok (.ishr, 1) := by decide +kernel
theorem dX9_listen_69 : decode cX9_listen 69 = .ok (.iconst 1, 1) := by decide +kernel
theorem dX9_listen_70 : decode cX9_listen 70 = .ok (.iand, 1) := by decide +kernel
theorem dX9_listen_71 : decode cX9_listen 71 = .ok (.ifCond .ne 7, 3) := by decide +kernel
theorem dX9_listen_74 : decode cX9_listen 74 = .ok (.iconst 1, 1) := by decide +kernel
theorem dX9_listen_75 : decode cX9_listen 75 = .ok (.goto 4, 3) := by decide +kernel
theorem dX9_listen_78 : decode cX9_listen 78 = .ok (.iconst 0, 1) := by decide +kernel
theorem dX9_listen_79 : decode cX9_listen 79 = .ok (.istore 7, 2) := by decide +kernel
theorem dX9_listen_81 : decode cX9_listen 81 = .ok (.iload 7, 2) := by decide +kernel
theorem dX9_listen_83 : decode cX9_listen 83 = .ok (.ifCond .eq 22, 3) := by decide +kernel
theorem dX9_listen_86 : decode cX9_listen 86 = .ok (.iload_n 3, 1) := by decide +kernel
theorem dX9_listen_87 : decode cX9_listen 87 = .ok (.iconst (-1), 1) := by decide +kernel
theorem dX9_listen_88 : decode cX9_listen 88 = .ok (.if_icmp .eq 10, 3) := by decide +kernel
theorem dX9_listen_91 : decode cX9_listen 91 = .ok (.iload 6, 2) := by decide +kernel
theorem dX9_listen_93 : decode cX9_listen 93 = .ok (.iload 4, 2) := by decide +kernel
theorem dX9_listen_95 : decode cX9_listen 95 = .ok (.if_icmp .ge 10, 3) := by decide +kernel
theorem dX9_listen_98 : decode cX9_listen 98 = .ok (.iload 5, 2) := by decide +kernel
theorem dX9_listen_100 : decode cX9_listen 100 = .ok (.istore_n 3, 1) := by decide +kernel
theorem dX9_listen_101 : decode cX9_listen 101 = .ok (.iload 6, 2) := by decide +kernel
theorem dX9_listen_103 : decode cX9_listen 103 = .ok (.istore 4, 2) := by decide +kernel
theorem dX9_listen_105 : decode cX9_listen 105 = .ok (.iinc 5 1, 3) := by decide +kernel
theorem dX9_listen_108 : decode cX9_listen 108 = .ok (.goto (-85), 3) := by decide +kernel
theorem dX9_listen_111 : decode cX9_listen 111 = .ok (.iload_n 1, 1) := by decide +kernel
theorem dX9_listen_112 : decode cX9_listen 112 = .ok (.ifCond .ne 7, 3) := by decide +kernel
theorem dX9_listen_115 : decode cX9_listen 115 = .ok (.iload_n 3, 1) := by decide +kernel
theorem dX9_listen_116 : decode cX9_listen 116 = .ok (.goto 5, 3) := by decide +kernel
theorem dX9_listen_119 : decode cX9_listen 119 = .ok (.iload 4, 2) := by decide +kernel
theorem dX9_listen_121 : decode cX9_listen 121 = .ok (.ireturn, 1) := by decide +kernel
theorem dX9_duty_0 : decode cX9_duty 0 = .ok (.aload_n 0, 1) := by decide +kernel
theorem dX9_duty_1 : decode cX9_duty 1 = .ok (.aload_n 0, 1) := by decide +kernel
theorem dX9_duty_2 : decode cX9_duty 2 = .ok (.iload_n 1, 1) := by decide +kernel
theorem dX9_duty_3 : decode cX9_duty 3 = .ok (.invokevirtual 205, 3) := by decide +kernel
theorem dX9_duty_6 : decode cX9_duty 6 = .ok (.invokevirtual 209, 3) := by decide +kernel
theorem dX9_duty_9 : decode cX9_duty 9 = .ok (.aload_n 0, 1) := by decide +kernel
theorem dX9_duty_10 : decode cX9_duty 10 = .ok (.getfield 44, 3) := by decide +kernel
theorem dX9_duty_13 : decode cX9_duty 13 = .ok (.aload_n 0, 1) := by decide +kernel
theorem dX9_duty_14 : decode cX9_duty 14 = .ok (.getfield 33, 3) := by decide +kernel
theorem dX9_duty_17 : decode cX9_duty 17 = .ok (.getfield 128, 3) := by decide +kernel
theorem dX9_duty_20 : decode cX9_duty 20 = .ok (.invokevirtual 256, 3) := by decide +kernel
theorem dX9_duty_23 : decode cX9_duty 23 = .ok (.aload_n 0, 1) := by decide +kernel
theorem dX9_duty_24 : decode cX9_duty 24 = .ok (.iload_n 1, 1) := by decide +kernel
theorem dX9_duty_25 : decode cX9_duty 25 = .ok (.invokevirtual 305, 3) := by decide +kernel
theorem dX9_duty_28 : decode cX9_duty 28 = .ok (.ireturn, 1) := by decide +kernel
theorem dX9_range_0 : decode cX9_range 0 = .ok (.aload_n 0, 1) := by decide +kernel
theorem dX9_range_1 : decode cX9_range 1 = .ok (.aload_n 0, 1) := by decide +kernel
theorem dX9_range_2 : decode cX9_range 2 = .ok (.iload_n 1, 1) := by decide +kernel
theorem dX9_range_3 : decode cX9_range 3 = .ok (.invokevirtual 205, 3) := by decide +kernel
theorem dX9_range_6 : decode cX9_range 6 = .ok (.invokevirtual 209, 3) := by decide +kernel
theorem dX9_range_9 : decode cX9_range 9 = .ok (.aload_n 0, 1) := by decide +kernel
theorem dX9_range_10 : decode cX9_range 10 = .ok (.getfield 44, 3) := by decide +kernel
theorem dX9_range_13 : decode cX9_range 13 = .ok (.aload_n 0, 1) := by decide +kernel
theorem dX9_range_14 : decode cX9_range 14 = .ok (.getfield 33, 3) := by decide +kernel
theorem dX9_range_17 : decode cX9_range 17 = .ok (.getfield 128, 3) := by decide +kernel
theorem dX9_range_20 : decode cX9_range 20 = .ok (.invokevirtual 256, 3) := by decide +kernel
theorem dX9_range_23 : decode cX9_range 23 = .ok (.iconst 0, 1) := by decide +kernel
theorem dX9_range_24 : decode cX9_range 24 = .ok (.istore_n 2, 1) := by decide +kernel
theorem dX9_range_25 : decode cX9_range 25 = .ok (.iconst 1, 1) := by decide +kernel
theorem dX9_range_26 : decode cX9_range 26 = .ok (.istore_n 3, 1) := by decide +kernel
theorem dX9_range_27 : decode cX9_range 27 = .ok (.iload_n 3, 1) := by decide +kernel
theorem dX9_range_28 : decode cX9_range 28 = .ok (.bipush 20, 2) := by decide +kernel
theorem dX9_range_30 : decode cX9_range 30 = .ok (.if_icmp .gt 48, 3) := by decide +kernel
theorem dX9_range_33 : decode cX9_range 33 = .ok (.aload_n 0, 1) := by decide +kernel
theorem dX9_range_34 : decode cX9_range 34 = .ok (.getfield 44, 3) := by decide +kernel
theorem dX9_range_37 : decode cX9_range 37 = .ok (.getfield 188, 3) := by decide +kernel
theorem dX9_range_40 : decode cX9_range 40 = .ok (.iload_n 1, 1) := by decide +kernel
theorem dX9_range_41 : decode cX9_range 41 = .ok (.iaload, 1) := by decide +kernel
theorem dX9_range_42 : decode cX9_range 42 = .ok (.istore 4, 2) := by decide +kernel
theorem dX9_range_44 : decode cX9_range 44 = .ok (.aload_n 0, 1) := by decide +kernel
theorem dX9_range_45 : decode cX9_range 45 = .ok (.getfield 19, 3) := by decide +kernel
theorem dX9_range_48 : decode cX9_range 48 = .ok (.aload_n 0, 1) := by decide +kernel
theorem dX9_range_49 : decode cX9_range 49 = .ok (.getfield 44, 3) := by decide +kernel
theorem dX9_range_52 : decode cX9_range 52 = .ok (.invokevirtual 260, 3) := by decide +kernel
theorem dX9_range_55 : decode cX9_range 55 = .ok (.pop, 1) := by decide +kernel
theorem dX9_range_56 : decode cX9_range 56 = .ok (.aload_n 0, 1) := by decide +kernel
theorem dX9_range_57 : decode cX9_range 57 = .ok (.getfield 44, 3) := by decide +kernel
theorem dX9_range_60 : decode cX9_range 60 = .ok (.getfield 188, 3) := by decide +kernel
theorem dX9_range_63 : decode cX9_range 63 = .ok (.iload_n 1, 1) := by decide +kernel
theorem dX9_range_64 : decode cX9_range 64 = .ok (.iaload, 1) := by decide +kernel
theorem dX9_range_65 : decode cX9_range 65 = .ok (.iload 4, 2) := by decide +kernel
theorem dX9_range_67 : decode cX9_range 67 = .ok (.if_icmp .le 5, 3) := by decide +kernel
theorem dX9_range_70 : decode cX9_range 70 = .ok (.iload_n 3, 1) := by decide +kernel
theorem dX9_range_71 : decode cX9_range 71 = .ok (.istore_n 2, 1) := by decide +kernel
theorem dX9_range_72 : decode cX9_range 72 = .ok (.iinc 3 1, 3) := by decide +kernel
theorem dX9_range_75 : decode cX9_range 75 = .ok (.goto (-48), 3) := by decide +kernel
theorem dX9_range_78 : decode cX9_range 78 = .ok (.iload_n 2, 1) := by decide +kernel
theorem dX9_range_79 : decode cX9_range 79 = .ok (.ireturn, 1) := by decide +kernel
theorem dX9_quarrel_0 : decode cX9_quarrel 0 = .ok (.aload_n 0, 1) := by decide +kernel
theorem dX9_quarrel_1 : decode cX9_quarrel 1 = .ok (.iload_n 1, 1) := by decide +kernel
theorem dX9_quarrel_2 : decode cX9_quarrel 2 = .ok (.iconst 0, 1) := by decide +kernel
theorem dX9_quarrel_3 : decode cX9_quarrel 3 = .ok (.bipush 99, 2) := by decide +kernel
theorem dX9_quarrel_5 : decode cX9_quarrel 5 = .ok (.invokestatic 168, 3) := by decide +kernel
theorem dX9_quarrel_8 : decode cX9_quarrel 8 = .ok (.ifCond .eq 26, 3) := by decide +kernel
theorem dX9_quarrel_11 : decode cX9_quarrel 11 = .ok (.iload_n 2, 1) := by decide +kernel
theorem dX9_quarrel_12 : decode cX9_quarrel 12 = .ok (.iconst 0, 1) := by decide +kernel
theorem dX9_quarrel_13 : decode cX9_quarrel 13 = .ok (.bipush 99, 2) := by decide +kernel
theorem dX9_quarrel_15 : decode cX9_quarrel 15 = .ok (.invokestatic 168, 3) := by decide +kernel
theorem dX9_quarrel_18 : decode cX9_quarrel 18 = .ok (.ifCond .eq 16, 3) := by decide +kernel
theorem dX9_quarrel_21 : decode cX9_quarrel 21 = .ok (.iload_n 3, 1) := by decide +kernel
theorem dX9_quarrel_22 : decode cX9_quarrel 22 = .ok (.iconst 0, 1) := by decide +kernel
theorem dX9_quarrel_23 : decode cX9_quarrel 23 = .ok (.iconst 2, 1) := by decide +kernel
theorem dX9_quarrel_24 : decode cX9_quarrel 24 = .ok (.invokestatic 168, 3) := by decide +kernel
theorem dX9_quarrel_27 : decode cX9_quarrel 27 = .ok (.ifCond .eq 7, 3) := by decide +kernel
theorem dX9_quarrel_30 : decode cX9_quarrel 30 = .ok (.iconst 1, 1) := by decide +kernel
theorem dX9_quarrel_31 : decode cX9_quarrel 31 = .ok (.goto 4, 3) := by decide +kernel
theorem dX9_quarrel_34 : decode cX9_quarrel 34 = .ok (.iconst 0, 1) := by decide +kernel
theorem dX9_quarrel_35 : decode cX9_quarrel 35 = .ok (.invokevirtual 172, 3) := by decide +kernel
theorem dX9_quarrel_38 : decode cX9_quarrel 38 = .ok (.iconst 0, 1) := by decide +kernel
theorem dX9_quarrel_39 : decode cX9_quarrel 39 = .ok (.istore 4, 2) := by decide +kernel
theorem dX9_quarrel_41 : decode cX9_quarrel 41 = .ok (.iconst (-1), 1) := by decide +kernel
theorem dX9_quarrel_42 : decode cX9_quarrel 42 = .ok (.istore 5, 2) := by decide +kernel
theorem dX9_quarrel_44 : decode cX9_quarrel 44 = .ok (.iconst 0, 1) := by decide +kernel
theorem dX9_quarrel_45 : decode cX9_quarrel 45 = .ok (.istore 6, 2) := by decide +kernel
theorem dX9_quarrel_47 : decode cX9_quarrel 47 = .ok (.iconst 0, 1) := by decide +kernel
theorem dX9_quarrel_48 : decode cX9_quarrel 48 = .ok (.istore 7, 2) := by decide +kernel
theorem dX9_quarrel_50 : decode cX9_quarrel 50 = .ok (.iload 7, 2) := by decide +kernel
theorem dX9_quarrel_52 : decode cX9_quarrel 52 = .ok (.iconst 4, 1) := by decide +kernel
theorem dX9_quarrel_53 : decode cX9_quarrel 53 = .ok (.if_icmp .ge 103, 3) := by decide +kernel
theorem dX9_quarrel_56 : decode cX9_quarrel 56 = .ok (.iload 7, 2) := by decide +kernel
theorem dX9_quarrel_58 : decode cX9_quarrel 58 = .ok (.iconst 1, 1) := by decide +kernel
theorem dX9_quarrel_59 : decode cX9_quarrel 59 = .ok (.ishr, 1) := by decide +kernel
theorem dX9_quarrel_60 : decode cX9_quarrel 60 = .ok (.istore 8, 2) := by decide +kernel
theorem dX9_quarrel_62 : decode cX9_quarrel 62 = .ok (.iload 7, 2) := by decide +kernel
theorem dX9_quarrel_64 : decode cX9_quarrel 64 = .ok (.iconst 1, 1) := by decide +kernel
theorem dX9_quarrel_65 : decode cX9_quarrel 65 = .ok (.iand, 1) := by decide +kernel
theorem dX9_quarrel_66 : decode cX9_quarrel 66 = .ok (.istore 9, 2) := by decide +kernel
theorem dX9_quarrel_68 : decode cX9_quarrel 68 = .ok (.iload 8, 2) := by decide +kernel
theorem dX9_quarrel_70 : decode cX9_quarrel 70 = .ok (.iload 9, 2) := by decide +kernel
theorem dX9_quarrel_72 : decode cX9_quarrel 72 = .ok (.iload_n 1, 1) := by decide +kernel
theorem dX9_quarrel_73 : decode cX9_quarrel 73 = .ok (.iload_n 2, 1) := by decide +kernel
theorem dX9_quarrel_74 : decode cX9_quarrel 74 = .ok (.invokestatic 308, 3) := by decide +kernel
theorem dX9_quarrel_77 : decode cX9_quarrel 77 = .ok (.istore 10, 2) := by decide +kernel
theorem dX9_quarrel_79 : decode cX9_quarrel 79 = .ok (.iload 9, 2) := by decide +kernel
theorem dX9_quarrel_81 : decode cX9_quarrel 81 = .ok (.iload 8, 2) := by decide +kernel
theorem dX9_quarrel_83 : decode cX9_quarrel 83 = .ok (.iload_n 1, 1) := by decide +kernel
theorem dX9_quarrel_84 : decode cX9_quarrel 84 = .ok (.iload_n 2, 1) := by decide +kernel
theorem dX9_quarrel_85 : decode cX9_quarrel 85 = .ok (.invokestatic 308, 3) := by decide +kernel
theorem dX9_quarrel_88 : decode cX9_quarrel 88 = .ok (.istore 11, 2) := by decide +kernel
theorem dX9_quarrel_90 : decode cX9_quarrel 90 = .ok (.iconst 1, 1) := by decide +kernel
theorem dX9_quarrel_91 : decode cX9_quarrel 91 = .ok (.iload 8, 2) := by decide +kernel
theorem dX9_quarrel_93 : decode cX9_quarrel 93 = .ok (.isub, 1) := by decide +kernel
theorem dX9_quarrel_94 : decode cX9_quarrel 94 = .ok (.iload 9, 2) := by decide +kernel
theorem dX9_quarrel_96 : decode cX9_quarrel 96 = .ok (.iload_n 1, 1) := by decide +kernel
theorem dX9_quarrel_97 : decode cX9_quarrel 97 = .ok (.iload_n 2, 1) := by decide +kernel
theorem dX9_quarrel_98 : decode cX9_quarrel 98 = .ok (.invokestatic 308, 3) := by decide +kernel
theorem dX9_quarrel_101 : decode cX9_quarrel 101 = .ok (.iload 10, 2) := by decide +kernel
theorem dX9_quarrel_103 : decode cX9_quarrel 103 = .ok (.if_icmp .gt 47, 3) := by decide +kernel
theorem dX9_quarrel_106 : decode cX9_quarrel 106 = .ok (.iconst 1, 1) := by decide +kernel
theorem dX9_quarrel_107 : decode cX9_quarrel 107 = .ok (.iload 9, 2) := by decide +kernel
theorem dX9_quarrel_109 : decode cX9_quarrel 109 = .ok (.isub, 1) := by decide +kernel
theorem dX9_quarrel_110 : decode cX9_quarrel 110 = .ok (.iload 8, 2) := by decide +kernel
theorem dX9_quarrel_112 : decode cX9_quarrel 112 = .ok (.iload_n 1, 1) := by decide +kernel
theorem dX9_quarrel_113 : decode cX9_quarrel 113 = .ok (.iload_n 2, 1) := by decide +kernel
theorem dX9_quarrel_114 : decode cX9_quarrel 114 = .ok (.invokestatic 308, 3) := by decide +kernel
theorem dX9_quarrel_117 : decode cX9_quarrel 117 = .ok (.iload 11, 2) := by decide +kernel
theorem dX9_quarrel_119 : decode cX9_quarrel 119 = .ok (.if_icmp .le 6, 3) := by decide +kernel
theorem dX9_quarrel_122 : decode cX9_quarrel 122 = .ok (.goto 28, 3) := by decide +kernel
theorem dX9_quarrel_125 : decode cX9_quarrel 125 = .ok (.iload 4, 2) := by decide +kernel
theorem dX9_quarrel_127 : decode cX9_quarrel 127 = .ok (.ifCond .ne 20, 3) := by decide +kernel
theorem dX9_quarrel_130 : decode cX9_quarrel 130 = .ok (.bipush 10, 2) := by decide +kernel
theorem dX9_quarrel_132 : decode cX9_quarrel 132 = .ok (.iload 8, 2) := by decide +kernel
theorem dX9_quarrel_134 : decode cX9_quarrel 134 = .ok (.imul, 1) := by decide +kernel
theorem dX9_quarrel_135 : decode cX9_quarrel 135 = .ok (.iload 9, 2) := by decide +kernel
theorem dX9_quarrel_137 : decode cX9_quarrel 137 = .ok (.iadd, 1) := by decide +kernel
theorem dX9_quarrel_138 : decode cX9_quarrel 138 = .ok (.istore 5, 2) := by decide +kernel
theorem dX9_quarrel_140 : decode cX9_quarrel 140 = .ok (.iload 10, 2) := by decide +kernel
theorem dX9_quarrel_142 : decode cX9_quarrel 142 = .ok (.iload 11, 2) := by decide +kernel
theorem dX9_quarrel_144 : decode cX9_quarrel 144 = .ok (.iadd, 1) := by decide +kernel
theorem dX9_quarrel_145 : decode cX9_quarrel 145 = .ok (.istore 6, 2) := by decide +kernel
theorem dX9_quarrel_147 : decode cX9_quarrel 147 = .ok (.iinc 4 1, 3) := by decide +kernel
theorem dX9_quarrel_150 : decode cX9_quarrel 150 = .ok (.iinc 7 1, 3) := by decide +kernel
theorem dX9_quarrel_153 : decode cX9_quarrel 153 = .ok (.goto (-103), 3) := by decide +kernel
theorem dX9_quarrel_156 : decode cX9_quarrel 156 = .ok (.iload_n 3, 1) := by decide +kernel
theorem dX9_quarrel_157 : decode cX9_quarrel 157 = .ok (.ifCond .ne 8, 3) := by decide +kernel
theorem dX9_quarrel_160 : decode cX9_quarrel 160 = .ok (.iload 4, 2) := by decide +kernel
theorem dX9_quarrel_162 : decode cX9_quarrel 162 = .ok (.goto 15, 3) := by decide +kernel
theorem dX9_quarrel_165 : decode cX9_quarrel 165 = .ok (.iload_n 3, 1) := by decide +kernel
theorem dX9_quarrel_166 : decode cX9_quarrel 166 = .ok (.iconst 1, 1) := by decide +kernel
theorem dX9_quarrel_167 : decode cX9_quarrel 167 = .ok (.if_icmp .ne 8, 3) := by decide +kernel
theorem dX9_quarrel_170 : decode cX9_quarrel 170 = .ok (.iload 5, 2) := by decide +kernel
theorem dX9_quarrel_172 : decode cX9_quarrel 172 = .ok (.goto 5, 3) := by decide +kernel
theorem dX9_quarrel_175 : decode cX9_quarrel 175 = .ok (.iload 6, 2) := by decide +kernel
theorem dX9_quarrel_177 : decode cX9_quarrel 177 = .ok (.ireturn, 1) := by decide +kernel
theorem dX9_enough_0 : decode cX9_enough 0 = .ok (.aload_n 0, 1) := by decide +kernel
theorem dX9_enough_1 : decode cX9_enough 1 = .ok (.iload_n 1, 1) := by decide +kernel
theorem dX9_enough_2 : decode cX9_enough 2 = .ok (.iconst 0, 1) := by decide +kernel
theorem dX9_enough_3 : decode cX9_enough 3 = .ok (.bipush 12, 2) := by decide +kernel
theorem dX9_enough_5 : decode cX9_enough 5 = .ok (.invokestatic 168, 3) := by decide +kernel
theorem dX9_enough_8 : decode cX9_enough 8 = .ok (.ifCond .eq 37, 3) := by decide +kernel
theorem dX9_enough_11 : decode cX9_enough 11 = .ok (.iload_n 2, 1) := by decide +kernel
theorem dX9_enough_12 : decode cX9_enough 12 = .ok (.iconst 0, 1) := by decide +kernel
theorem dX9_enough_13 : decode cX9_enough 13 = .ok (.bipush 13, 2) := by decide +kernel
theorem dX9_enough_15 : decode cX9_enough 15 = .ok (.invokestatic 168, 3) := by decide +kernel
theorem dX9_enough_18 : decode cX9_enough 18 = .ok (.ifCond .eq 27, 3) := by decide +kernel
theorem dX9_enough_21 : decode cX9_enough 21 = .ok (.iload_n 3, 1) := by decide +kernel
theorem dX9_enough_22 : decode cX9_enough 22 = .ok (.iconst 0, 1) := by decide +kernel
theorem dX9_enough_23 : decode cX9_enough 23 = .ok (.bipush 16, 2) := by decide +kernel
theorem dX9_enough_25 : decode cX9_enough 25 = .ok (.invokestatic 168, 3) := by decide +kernel
theorem dX9_enough_28 : decode cX9_enough 28 = .ok (.ifCond .eq 17, 3) := by decide +kernel
theorem dX9_enough_31 : decode cX9_enough 31 = .ok (.iload 4, 2) := by decide +kernel
theorem dX9_enough_33 : decode cX9_enough 33 = .ok (.iconst 0, 1) := by decide +kernel
theorem dX9_enough_34 : decode cX9_enough 34 = .ok (.iconst 1, 1) := by decide +kernel
theorem dX9_enough_35 : decode cX9_enough 35 = .ok (.invokestatic 168, 3) := by decide +kernel
theorem dX9_enough_38 : decode cX9_enough 38 = .ok (.ifCond .eq 7, 3) := by decide +kernel
theorem dX9_enough_41 : decode cX9_enough 41 = .ok (.iconst 1, 1) := by decide +kernel
theorem dX9_enough_42 : decode cX9_enough 42 = .ok (.goto 4, 3) := by decide +kernel
theorem dX9_enough_45 : decode cX9_enough 45 = .ok (.iconst 0, 1) := by decide +kernel
theorem dX9_enough_46 : decode cX9_enough 46 = .ok (.invokevirtual 172, 3) := by decide +kernel
theorem dX9_enough_49 : decode cX9_enough 49 = .ok (.lconst 0, 1) := by decide +kernel
theorem dX9_enough_50 : decode cX9_enough 50 = .ok (.lstore 5, 2) := by decide +kernel
theorem dX9_enough_52 : decode cX9_enough 52 = .ok (.iload_n 2, 1) := by decide +kernel
theorem dX9_enough_53 : decode cX9_enough 53 = .ok (.istore 7, 2) := by decide +kernel
theorem dX9_enough_55 : decode cX9_enough 55 = .ok (.iload 7, 2) := by decide +kernel
theorem dX9_enough_57 : decode cX9_enough 57 = .ok (.iload_n 1, 1) := by decide +kernel
theorem dX9_enough_58 : decode cX9_enough 58 = .ok (.if_icmp .gt 39, 3) := by decide +kernel
theorem dX9_enough_61 : decode cX9_enough 61 = .ok (.lload 5, 2) := by decide +kernel
theorem dX9_enough_63 : decode cX9_enough 63 = .ok (.iload_n 1, 1) := by decide +kernel
theorem dX9_enough_64 : decode cX9_enough 64 = .ok (.iload 7, 2) := by decide +kernel
theorem dX9_enough_66 : decode cX9_enough 66 = .ok (.invokestatic 312, 3) := by decide +kernel
theorem dX9_enough_69 : decode cX9_enough 69 = .ok (.bipush 16, 2) := by decide +kernel
theorem dX9_enough_71 : decode cX9_enough 71 = .ok (.iload_n 3, 1) := by decide +kernel
theorem dX9_enough_72 : decode cX9_enough 72 = .ok (.isub, 1) := by decide +kernel
theorem dX9_enough_73 : decode cX9_enough 73 = .ok (.iload 7, 2) := by decide +kernel
theorem dX9_enough_75 : decode cX9_enough 75 = .ok (.invokestatic 316, 3) := by decide +kernel
theorem dX9_enough_78 : decode cX9_enough 78 = .ok (.lmul, 1) := by decide +kernel
theorem dX9_enough_79 : decode cX9_enough 79 = .ok (.iload_n 3, 1) := by decide +kernel
theorem dX9_enough_80 : decode cX9_enough 80 = .ok (.iload_n 1, 1) := by decide +kernel
theorem dX9_enough_81 : decode cX9_enough 81 = .ok (.iload 7, 2) := by decide +kernel
theorem dX9_enough_83 : decode cX9_enough 83 = .ok (.isub, 1) := by decide +kernel
theorem dX9_enough_84 : decode cX9_enough 84 = .ok (.invokestatic 316, 3) := by decide +kernel
theorem dX9_enough_87 : decode cX9_enough 87 = .ok (.lmul, 1) := by decide +kernel
theorem dX9_enough_88 : decode cX9_enough 88 = .ok (.ladd, 1) := by decide +kernel
theorem dX9_enough_89 : decode cX9_enough 89 = .ok (.lstore 5, 2) := by decide +kernel
theorem dX9_enough_91 : decode cX9_enough 91 = .ok (.iinc 7 1, 3) := by decide +kernel
theorem dX9_enough_94 : decode cX9_enough 94 = .ok (.goto (-39), 3) := by decide +kernel
theorem dX9_enough_97 : decode cX9_enough 97 = .ok (.bipush 16, 2) := by decide +kernel
theorem dX9_enough_99 : decode cX9_enough 99 = .ok (.iload_n 1, 1) := by decide +kernel
theorem dX9_enough_100 : decode cX9_enough 100 = .ok (.invokestatic 316, 3) := by decide +kernel
theorem dX9_enough_103 : decode cX9_enough 103 = .ok (.lstore 7, 2) := by decide +kernel
theorem dX9_enough_105 : decode cX9_enough 105 = .ok (.lload 7, 2) := by decide +kernel
theorem dX9_enough_107 : decode cX9_enough 107 = .ok (.lconst 1, 1) := by decide +kernel
theorem dX9_enough_108 : decode cX9_enough 108 = .ok (.lcmp, 1) := by decide +kernel
theorem dX9_enough_109 : decode cX9_enough 109 = .ok (.ifCond .le 27, 3) := by decide +kernel
theorem dX9_enough_112 : decode cX9_enough 112 = .ok (.lload 5, 2) := by decide +kernel
theorem dX9_enough_114 : decode cX9_enough 114 = .ok (.lconst 1, 1) := by decide +kernel
theorem dX9_enough_115 : decode cX9_enough 115 = .ok (.land, 1) := by decide +kernel
theorem dX9_enough_116 : decode cX9_enough 116 = .ok (.lconst 0, 1) := by decide +kernel
theorem dX9_enough_117 : decode cX9_enough 117 = .ok (.lcmp, 1) := by decide +kernel
theorem dX9_enough_118 : decode cX9_enough 118 = .ok (.ifCond .ne 18, 3) := by decide +kernel
theorem dX9_enough_121 : decode cX9_enough 121 = .ok (.lload 5, 2) := by decide +kernel
theorem dX9_enough_123 : decode cX9_enough 123 = .ok (.iconst 1, 1) := by decide +kernel
theorem dX9_enough_124 : decode cX9_enough 124 = .ok (.lshr, 1) := by decide +kernel
theorem dX9_enough_125 : decode cX9_enough 125 = .ok (.lstore 5, 2) := by decide +kernel
theorem dX9_enough_127 : decode cX9_enough 127 = .ok (.lload 7, 2) := by decide +kernel
theorem dX9_enough_129 : decode cX9_enough 129 = .ok (.iconst 1, 1) := by decide +kernel
theorem dX9_enough_130 : decode cX9_enough 130 = .ok (.lshr, 1) := by decide +kernel
theorem dX9_enough_131 : decode cX9_enough 131 = .ok (.lstore 7, 2) := by decide +kernel
theorem dX9_enough_133 : decode cX9_enough 133 = .ok (.goto (-28), 3) := by decide +kernel
theorem dX9_enough_136 : decode cX9_enough 136 = .ok (.iload 4, 2) := by decide +kernel
theorem dX9_enough_138 : decode cX9_enough 138 = .ok (.ifCond .ne 8, 3) := by decide +kernel
theorem dX9_enough_141 : decode cX9_enough 141 = .ok (.lload 5, 2) := by decide +kernel
theorem dX9_enough_143 : decode cX9_enough 143 = .ok (.goto 5, 3) := by decide +kernel
theorem dX9_enough_146 : decode cX9_enough 146 = .ok (.lload 7, 2) := by decide +kernel
theorem dX9_enough_148 : decode cX9_enough 148 = .ok (.lreturn, 1) := by decide +kernel
theorem dX9_rent_0 : decode cX9_rent 0 = .ok (.aload_n 0, 1) := by decide +kernel
theorem dX9_rent_1 : decode cX9_rent 1 = .ok (.aload_n 0, 1) := by decide +kernel
theorem dX9_rent_2 : decode cX9_rent 2 = .ok (.iload_n 1, 1) := by decide +kernel
theorem dX9_rent_3 : decode cX9_rent 3 = .ok (.invokevirtual 205, 3) := by decide +kernel
theorem dX9_rent_6 : decode cX9_rent 6 = .ok (.invokevirtual 209, 3) := by decide +kernel
theorem dX9_rent_9 : decode cX9_rent 9 = .ok (.aload_n 0, 1) := by decide +kernel
theorem dX9_rent_10 : decode cX9_rent 10 = .ok (.aload_n 0, 1) := by decide +kernel
theorem dX9_rent_11 : decode cX9_rent 11 = .ok (.iload_n 2, 1) := by decide +kernel
theorem dX9_rent_12 : decode cX9_rent 12 = .ok (.invokevirtual 319, 3) := by decide +kernel
theorem dX9_rent_15 : decode cX9_rent 15 = .ok (.ifCond .eq 18, 3) := by decide +kernel
theorem dX9_rent_18 : decode cX9_rent 18 = .ok (.iload_n 3, 1) := by decide +kernel
theorem dX9_rent_19 : decode cX9_rent 19 = .ok (.iconst 0, 1) := by decide +kernel
theorem dX9_rent_20 : decode cX9_rent 20 = .ok (.sipush 999, 3) := by decide +kernel
theorem dX9_rent_23 : decode cX9_rent 23 = .ok (.invokestatic 168, 3) := by decide +kernel
theorem dX9_rent_26 : decode cX9_rent 26 = .ok (.ifCond .eq 7, 3) := by decide +kernel
theorem dX9_rent_29 : decode cX9_rent 29 = .ok (.iconst 1, 1) := by decide +kernel
theorem dX9_rent_30 : decode cX9_rent 30 = .ok (.goto 4, 3) := by decide +kernel
theorem dX9_rent_33 : decode cX9_rent 33 = .ok (.iconst 0, 1) := by decide +kernel
theorem dX9_rent_34 : decode cX9_rent 34 = .ok (.invokevirtual 172, 3) := by decide +kernel
theorem dX9_rent_37 : decode cX9_rent 37 = .ok (.iload_n 2, 1) := by decide +kernel
theorem dX9_rent_38 : decode cX9_rent 38 = .ok (.iload_n 1, 1) := by decide +kernel
theorem dX9_rent_39 : decode cX9_rent 39 = .ok (.ishr, 1) := by decide +kernel
theorem dX9_rent_40 : decode cX9_rent 40 = .ok (.iconst 1, 1) := by decide +kernel
theorem dX9_rent_41 : decode cX9_rent 41 = .ok (.iand, 1) := by decide +kernel
theorem dX9_rent_42 : decode cX9_rent 42 = .ok (.ifCond .ne 5, 3) := by decide +kernel
theorem dX9_rent_45 : decode cX9_rent 45 = .ok (.iconst 0, 1) := by decide +kernel
theorem dX9_rent_46 : decode cX9_rent 46 = .ok (.ireturn, 1) := by decide +kernel
theorem dX9_rent_47 : decode cX9_rent 47 = .ok (.bipush 60, 2) := by decide +kernel
theorem dX9_rent_49 : decode cX9_rent 49 = .ok (.istore 4, 2) := by decide +kernel
theorem dX9_rent_51 : decode cX9_rent 51 = .ok (.iload 4, 2) := by decide +kernel
theorem dX9_rent_53 : decode cX9_rent 53 = .ok (.ifCond .le 20, 3) := by decide +kernel
theorem dX9_rent_56 : decode cX9_rent 56 = .ok (.aload_n 0, 1) := by decide +kernel
theorem dX9_rent_57 : decode cX9_rent 57 = .ok (.iload_n 2, 1) := by decide +kernel
theorem dX9_rent_58 : decode cX9_rent 58 = .ok (.iload 4, 2) := by decide +kernel
theorem dX9_rent_60 : decode cX9_rent 60 = .ok (.invokevirtual 322, 3) := by decide +kernel
theorem dX9_rent_63 : decode cX9_rent 63 = .ok (.iload_n 3, 1) := by decide +kernel
theorem dX9_rent_64 : decode cX9_rent 64 = .ok (.if_icmp .le 9, 3) := by decide +kernel
theorem dX9_rent_67 : decode cX9_rent 67 = .ok (.iinc 4 (-1), 3) := by decide +kernel
theorem dX9_rent_70 : decode cX9_rent 70 = .ok (.goto (-19), 3) := by decide +kernel
theorem dX9_rent_73 : decode cX9_rent 73 = .ok (.aload_n 0, 1) := by decide +kernel
theorem dX9_rent_74 : decode cX9_rent 74 = .ok (.getfield 19, 3) := by decide +kernel
theorem dX9_rent_77 : decode cX9_rent 77 = .ok (.getfield 106, 3) := by decide +kernel
theorem dX9_rent_80 : decode cX9_rent 80 = .ok (.getfield 215, 3) := by decide +kernel
theorem dX9_rent_83 : decode cX9_rent 83 = .ok (.iload_n 1, 1) := by decide +kernel
theorem dX9_rent_84 : decode cX9_rent 84 = .ok (.iaload, 1) := by decide +kernel
theorem dX9_rent_85 : decode cX9_rent 85 = .ok (.iload 4, 2) := by decide +kernel
theorem dX9_rent_87 : decode cX9_rent 87 = .ok (.invokestatic 325, 3) := by decide +kernel
theorem dX9_rent_90 : decode cX9_rent 90 = .ok (.ireturn, 1) := by decide +kernel
theorem dX9_dearest_0 : decode cX9_dearest 0 = .ok (.aload_n 0, 1) := by decide +kernel
theorem dX9_dearest_1 : decode cX9_dearest 1 = .ok (.iload_n 1, 1) := by decide +kernel
theorem dX9_dearest_2 : decode cX9_dearest 2 = .ok (.iconst 0, 1) := by decide +kernel
theorem dX9_dearest_3 : decode cX9_dearest 3 = .ok (.iconst 1, 1) := by decide +kernel
theorem dX9_dearest_4 : decode cX9_dearest 4 = .ok (.invokestatic 168, 3) := by decide +kernel
theorem dX9_dearest_7 : decode cX9_dearest 7 = .ok (.invokevirtual 172, 3) := by decide +kernel
theorem dX9_dearest_10 : decode cX9_dearest 10 = .ok (.aload_n 0, 1) := by decide +kernel
theorem dX9_dearest_11 : decode cX9_dearest 11 = .ok (.getfield 19, 3) := by decide +kernel
theorem dX9_dearest_14 : decode cX9_dearest 14 = .ok (.getfield 106, 3) := by decide +kernel
theorem dX9_dearest_17 : decode cX9_dearest 17 = .ok (.getfield 215, 3) := by decide +kernel
theorem dX9_dearest_20 : decode cX9_dearest 20 = .ok (.aload_n 0, 1) := by decide +kernel
theorem dX9_dearest_21 : decode cX9_dearest 21 = .ok (.getfield 19, 3) := by decide +kernel
theorem dX9_dearest_24 : decode cX9_dearest 24 = .ok (.getfield 106, 3) := by decide +kernel
theorem dX9_dearest_27 : decode cX9_dearest 27 = .ok (.getfield 112, 3) := by decide +kernel
theorem dX9_dearest_30 : decode cX9_dearest 30 = .ok (.invokestatic 328, 3) := by decide +kernel
theorem dX9_dearest_33 : decode cX9_dearest 33 = .ok (.istore_n 2, 1) := by decide +kernel
theorem dX9_dearest_34 : decode cX9_dearest 34 = .ok (.iload_n 1, 1) := by decide +kernel
theorem dX9_dearest_35 : decode cX9_dearest 35 = .ok (.ifCond .eq 8, 3) := by decide +kernel
theorem dX9_dearest_38 : decode cX9_dearest 38 = .ok (.iload_n 2, 1) := by decide +kernel
theorem dX9_dearest_39 : decode cX9_dearest 39 = .ok (.iconst (-1), 1) := by decide +kernel
theorem dX9_dearest_40 : decode cX9_dearest 40 = .ok (.if_icmp .ne 7, 3) := by decide +kernel
theorem dX9_dearest_43 : decode cX9_dearest 43 = .ok (.iload_n 2, 1) := by decide +kernel
theorem dX9_dearest_44 : decode cX9_dearest 44 = .ok (.goto 15, 3) := by decide +kernel
theorem dX9_dearest_47 : decode cX9_dearest 47 = .ok (.aload_n 0, 1) := by decide +kernel
theorem dX9_dearest_48 : decode cX9_dearest 48 = .ok (.getfield 19, 3) := by decide +kernel
theorem dX9_dearest_51 : decode cX9_dearest 51 = .ok (.getfield 106, 3) := by decide +kernel
theorem dX9_dearest_54 : decode cX9_dearest 54 = .ok (.getfield 215, 3) := by decide +kernel
theorem dX9_dearest_57 : decode cX9_dearest 57 = .ok (.iload_n 2, 1) := by decide +kernel
theorem dX9_dearest_58 : decode cX9_dearest 58 = .ok (.iaload, 1) := by decide +kernel
theorem dX9_dearest_59 : decode cX9_dearest 59 = .ok (.ireturn, 1) := by decide +kernel
theorem dX9_voices_0 : decode cX9_voices 0 = .ok (.aload_n 0, 1) := by decide +kernel
theorem dX9_voices_1 : decode cX9_voices 1 = .ok (.iload_n 1, 1) := by decide +kernel
theorem dX9_voices_2 : decode cX9_voices 2 = .ok (.invokestatic 247, 3) := by decide +kernel
theorem dX9_voices_5 : decode cX9_voices 5 = .ok (.invokevirtual 172, 3) := by decide +kernel
theorem dX9_voices_8 : decode cX9_voices 8 = .ok (.aload_n 0, 1) := by decide +kernel
theorem dX9_voices_9 : decode cX9_voices 9 = .ok (.getfield 19, 3) := by decide +kernel
theorem dX9_voices_12 : decode cX9_voices 12 = .ok (.getfield 106, 3) := by decide +kernel
theorem dX9_voices_15 : decode cX9_voices 15 = .ok (.getfield 212, 3) := by decide +kernel
theorem dX9_voices_18 : decode cX9_voices 18 = .ok (.aload_n 0, 1) := by decide +kernel
theorem dX9_voices_19 : decode cX9_voices 19 = .ok (.getfield 19, 3) := by decide +kernel
theorem dX9_voices_22 : decode cX9_voices 22 = .ok (.getfield 106, 3) := by decide +kernel
theorem dX9_voices_25 : decode cX9_voices 25 = .ok (.getfield 112, 3) := by decide +kernel
theorem dX9_voices_28 : decode cX9_voices 28 = .ok (.iload_n 1, 1) := by decide +kernel
theorem dX9_voices_29 : decode cX9_voices 29 = .ok (.invokestatic 332, 3) := by decide +kernel
theorem dX9_voices_32 : decode cX9_voices 32 = .ok (.ireturn, 1) := by decide +kernel
theorem dX9_sounds_0 : decode cX9_sounds 0 = .ok (.aload_n 0, 1) := by decide +kernel
theorem dX9_sounds_1 : decode cX9_sounds 1 = .ok (.iload_n 1, 1) := by decide +kernel
theorem dX9_sounds_2 : decode cX9_sounds 2 = .ok (.invokestatic 247, 3) := by decide +kernel
theorem dX9_sounds_5 : decode cX9_sounds 5 = .ok (.invokevirtual 172, 3) := by decide +kernel
theorem dX9_sounds_8 : decode cX9_sounds 8 = .ok (.aload_n 0, 1) := by decide +kernel
theorem dX9_sounds_9 : decode cX9_sounds 9 = .ok (.getfield 33, 3) := by decide +kernel
theorem dX9_sounds_12 : decode cX9_sounds 12 = .ok (.getfield 128, 3) := by decide +kernel
theorem dX9_sounds_15 : decode cX9_sounds 15 = .ok (.getfield 227, 3) := by decide +kernel
theorem dX9_sounds_18 : decode cX9_sounds 18 = .ok (.aload_n 0, 1) := by decide +kernel
theorem dX9_sounds_19 : decode cX9_sounds 19 = .ok (.getfield 19, 3) := by decide +kernel
theorem dX9_sounds_22 : decode cX9_sounds 22 = .ok (.getfield 106, 3) := by decide +kernel
theorem dX9_sounds_25 : decode cX9_sounds 25 = .ok (.getfield 147, 3) := by decide +kernel
theorem dX9_sounds_28 : decode cX9_sounds 28 = .ok (.iload_n 1, 1) := by decide +kernel
theorem dX9_sounds_29 : decode cX9_sounds 29 = .ok (.invokestatic 332, 3) := by decide +kernel
theorem dX9_sounds_32 : decode cX9_sounds 32 = .ok (.ireturn, 1) := by decide +kernel
theorem dX9_beats_0 : decode cX9_beats 0 = .ok (.aload_n 0, 1) := by decide +kernel
theorem dX9_beats_1 : decode cX9_beats 1 = .ok (.iload_n 1, 1) := by decide +kernel
theorem dX9_beats_2 : decode cX9_beats 2 = .ok (.invokestatic 247, 3) := by decide +kernel
theorem dX9_beats_5 : decode cX9_beats 5 = .ok (.invokevirtual 172, 3) := by decide +kernel
theorem dX9_beats_8 : decode cX9_beats 8 = .ok (.iconst 0, 1) := by decide +kernel
theorem dX9_beats_9 : decode cX9_beats 9 = .ok (.istore_n 2, 1) := by decide +kernel
theorem dX9_beats_10 : decode cX9_beats 10 = .ok (.iconst 0, 1) := by decide +kernel
theorem dX9_beats_11 : decode cX9_beats 11 = .ok (.istore_n 3, 1) := by decide +kernel
theorem dX9_beats_12 : decode cX9_beats 12 = .ok (.iload_n 3, 1) := by decide +kernel
theorem dX9_beats_13 : decode cX9_beats 13 = .ok (.aload_n 0, 1) := by decide +kernel
theorem dX9_beats_14 : decode cX9_beats 14 = .ok (.getfield 19, 3) := by decide +kernel
theorem dX9_beats_17 : decode cX9_beats 17 = .ok (.getfield 106, 3) := by decide +kernel
theorem dX9_beats_20 : decode cX9_beats 20 = .ok (.getfield 147, 3) := by decide +kernel
theorem dX9_beats_23 : decode cX9_beats 23 = .ok (.if_icmp .ge 40, 3) := by decide +kernel
theorem dX9_beats_26 : decode cX9_beats 26 = .ok (.aload_n 0, 1) := by decide +kernel
theorem dX9_beats_27 : decode cX9_beats 27 = .ok (.getfield 33, 3) := by decide +kernel
theorem dX9_beats_30 : decode cX9_beats 30 = .ok (.getfield 128, 3) := by decide +kernel
theorem dX9_beats_33 : decode cX9_beats 33 = .ok (.getfield 227, 3) := by decide +kernel
theorem dX9_beats_36 : decode cX9_beats 36 = .ok (.iload_n 3, 1) := by decide +kernel
theorem dX9_beats_37 : decode cX9_beats 37 = .ok (.iaload, 1) := by decide +kernel
theorem dX9_beats_38 : decode cX9_beats 38 = .ok (.iload_n 1, 1) := by decide +kernel
theorem dX9_beats_39 : decode cX9_beats 39 = .ok (.if_icmp .ne 18, 3) := by decide +kernel
theorem dX9_beats_42 : decode cX9_beats 42 = .ok (.iload_n 2, 1) := by decide +kernel
theorem dX9_beats_43 : decode cX9_beats 43 = .ok (.aload_n 0, 1) := by decide +kernel
theorem dX9_beats_44 : decode cX9_beats 44 = .ok (.getfield 19, 3) := by decide +kernel
theorem dX9_beats_47 : decode cX9_beats 47 = .ok (.getfield 106, 3) := by decide +kernel
theorem dX9_beats_50 : decode cX9_beats 50 = .ok (.getfield 231, 3) := by decide +kernel
theorem dX9_beats_53 : decode cX9_beats 53 = .ok (.iload_n 3, 1) := by decide +kernel
theorem dX9_beats_54 : decode cX9_beats 54 = .ok (.iaload, 1) := by decide +kernel
theorem dX9_beats_55 : decode cX9_beats 55 = .ok (.iadd, 1) := by decide +kernel
theorem dX9_beats_56 : decode cX9_beats 56 = .ok (.istore_n 2, 1) := by decide +kernel
theorem dX9_beats_57 : decode cX9_beats 57 = .ok (.iinc 3 1, 3) := by decide +kernel
theorem dX9_beats_60 : decode cX9_beats 60 = .ok (.goto (-48), 3) := by decide +kernel
theorem dX9_beats_63 : decode cX9_beats 63 = .ok (.iload_n 2, 1) := by decide +kernel
theorem dX9_beats_64 : decode cX9_beats 64 = .ok (.ireturn, 1) := by decide +kernel
theorem dX9_words_0 : decode cX9_words 0 = .ok (.aload_n 0, 1) := by decide +kernel
theorem dX9_words_1 : decode cX9_words 1 = .ok (.aload_n 0, 1) := by decide +kernel
theorem dX9_words_2 : decode cX9_words 2 = .ok (.iload_n 1, 1) := by decide +kernel
theorem dX9_words_3 : decode cX9_words 3 = .ok (.invokevirtual 224, 3) := by decide +kernel
theorem dX9_words_6 : decode cX9_words 6 = .ok (.invokevirtual 209, 3) := by decide +kernel
theorem dX9_words_9 : decode cX9_words 9 = .ok (.aload_n 0, 1) := by decide +kernel
theorem dX9_words_10 : decode cX9_words 10 = .ok (.getfield 19, 3) := by decide +kernel
theorem dX9_words_13 : decode cX9_words 13 = .ok (.getfield 106, 3) := by decide +kernel
theorem dX9_words_16 : decode cX9_words 16 = .ok (.getfield 336, 3) := by decide +kernel
theorem dX9_words_19 : decode cX9_words 19 = .ok (.iload_n 1, 1) := by decide +kernel
theorem dX9_words_20 : decode cX9_words 20 = .ok (.iaload, 1) := by decide +kernel
theorem dX9_words_21 : decode cX9_words 21 = .ok (.ireturn, 1) := by decide +kernel
theorem dX9_mute_0 : decode cX9_mute 0 = .ok (.iconst 0, 1) := by decide +kernel
theorem dX9_mute_1 : decode cX9_mute 1 = .ok (.istore_n 1, 1) := by decide +kernel
theorem dX9_mute_2 : decode cX9_mute 2 = .ok (.iconst 0, 1) := by decide +kernel
theorem dX9_mute_3 : decode cX9_mute 3 = .ok (.istore_n 2, 1) := by decide +kernel
theorem dX9_mute_4 : decode cX9_mute 4 = .ok (.iload_n 2, 1) := by decide +kernel
theorem dX9_mute_5 : decode cX9_mute 5 = .ok (.aload_n 0, 1) := by decide +kernel
theorem dX9_mute_6 : decode cX9_mute 6 = .ok (.getfield 19, 3) := by decide +kernel
theorem dX9_mute_9 : decode cX9_mute 9 = .ok (.getfield 106, 3) := by decide +kernel
theorem dX9_mute_12 : decode cX9_mute 12 = .ok (.getfield 147, 3) := by decide +kernel
theorem dX9_mute_15 : decode cX9_mute 15 = .ok (.if_icmp .ge 24, 3) := by decide +kernel
theorem dX9_mute_18 : decode cX9_mute 18 = .ok (.aload_n 0, 1) := by decide +kernel
theorem dX9_mute_19 : decode cX9_mute 19 = .ok (.iload_n 2, 1) := by decide +kernel
theorem dX9_mute_20 : decode cX9_mute 20 = .ok (.invokevirtual 234, 3) := by decide +kernel
theorem dX9_mute_23 : decode cX9_mute 23 = .ok (.iconst (-1), 1) := by decide +kernel
theorem dX9_mute_24 : decode cX9_mute 24 = .ok (.if_icmp .ne 9, 3) := by decide +kernel
theorem dX9_mute_27 : decode cX9_mute 27 = .ok (.iload_n 1, 1) := by decide +kernel
theorem dX9_mute_28 : decode cX9_mute 28 = .ok (.iconst 1, 1) := by decide +kernel
theorem dX9_mute_29 : decode cX9_mute 29 = .ok (.iload_n 2, 1) := by decide +kernel
theorem dX9_mute_30 : decode cX9_mute 30 = .ok (.ishl, 1) := by decide +kernel
theorem dX9_mute_31 : decode cX9_mute 31 = .ok (.ior, 1) := by decide +kernel
theorem dX9_mute_32 : decode cX9_mute 32 = .ok (.istore_n 1, 1) := by decide +kernel
theorem dX9_mute_33 : decode cX9_mute 33 = .ok (.iinc 2 1, 3) := by decide +kernel
theorem dX9_mute_36 : decode cX9_mute 36 = .ok (.goto (-32), 3) := by decide +kernel
theorem dX9_mute_39 : decode cX9_mute 39 = .ok (.iload_n 1, 1) := by decide +kernel
theorem dX9_mute_40 : decode cX9_mute 40 = .ok (.ireturn, 1) := by decide +kernel
theorem dX9_idle_0 : decode cX9_idle 0 = .ok (.aload_n 0, 1) := by decide +kernel
theorem dX9_idle_1 : decode cX9_idle 1 = .ok (.getfield 44, 3) := by decide +kernel
theorem dX9_idle_4 : decode cX9_idle 4 = .ok (.aload_n 0, 1) := by decide +kernel
theorem dX9_idle_5 : decode cX9_idle 5 = .ok (.getfield 33, 3) := by decide +kernel
theorem dX9_idle_8 : decode cX9_idle 8 = .ok (.getfield 128, 3) := by decide +kernel
theorem dX9_idle_11 : decode cX9_idle 11 = .ok (.invokevirtual 256, 3) := by decide +kernel
theorem dX9_idle_14 : decode cX9_idle 14 = .ok (.aload_n 0, 1) := by decide +kernel
theorem dX9_idle_15 : decode cX9_idle 15 = .ok (.getfield 19, 3) := by decide +kernel
theorem dX9_idle_18 : decode cX9_idle 18 = .ok (.aload_n 0, 1) := by decide +kernel
theorem dX9_idle_19 : decode cX9_idle 19 = .ok (.getfield 44, 3) := by decide +kernel
theorem dX9_idle_22 : decode cX9_idle 22 = .ok (.invokevirtual 260, 3) := by decide +kernel
theorem dX9_idle_25 : decode cX9_idle 25 = .ok (.pop, 1) := by decide +kernel
theorem dX9_idle_26 : decode cX9_idle 26 = .ok (.iconst 0, 1) := by decide +kernel
theorem dX9_idle_27 : decode cX9_idle 27 = .ok (.istore_n 1, 1) := by decide +kernel
theorem dX9_idle_28 : decode cX9_idle 28 = .ok (.iconst 0, 1) := by decide +kernel
theorem dX9_idle_29 : decode cX9_idle 29 = .ok (.istore_n 2, 1) := by decide +kernel
theorem dX9_idle_30 : decode cX9_idle 30 = .ok (.iload_n 2, 1) := by decide +kernel
theorem dX9_idle_31 : decode cX9_idle 31 = .ok (.aload_n 0, 1) := by decide +kernel
theorem dX9_idle_32 : decode cX9_idle 32 = .ok (.getfield 19, 3) := by decide +kernel
theorem dX9_idle_35 : decode cX9_idle 35 = .ok (.getfield 106, 3) := by decide +kernel
theorem dX9_idle_38 : decode cX9_idle 38 = .ok (.getfield 112, 3) := by decide +kernel
theorem dX9_idle_41 : decode cX9_idle 41 = .ok (.if_icmp .ge 39, 3) := by decide +kernel
theorem dX9_idle_44 : decode cX9_idle 44 = .ok (.aload_n 0, 1) := by decide +kernel
theorem dX9_idle_45 : decode cX9_idle 45 = .ok (.getfield 44, 3) := by decide +kernel
theorem dX9_idle_48 : decode cX9_idle 48 = .ok (.getfield 188, 3) := by decide +kernel
theorem dX9_idle_51 : decode cX9_idle 51 = .ok (.iload_n 2, 1) := by decide +kernel
theorem dX9_idle_52 : decode cX9_idle 52 = .ok (.iaload, 1) := by decide +kernel
theorem dX9_idle_53 : decode cX9_idle 53 = .ok (.aload_n 0, 1) := by decide +kernel
theorem dX9_idle_54 : decode cX9_idle 54 = .ok (.getfield 33, 3) := by decide +kernel
theorem dX9_idle_57 : decode cX9_idle 57 = .ok (.getfield 128, 3) := by decide +kernel
theorem dX9_idle_60 : decode cX9_idle 60 = .ok (.getfield 188, 3) := by decide +kernel
theorem dX9_idle_63 : decode cX9_idle 63 = .ok (.iload_n 2, 1) := by decide +kernel
theorem dX9_idle_64 : decode cX9_idle 64 = .ok (.iaload, 1) := by decide +kernel
theorem dX9_idle_65 : decode cX9_idle 65 = .ok (.if_icmp .ne 9, 3) := by decide +kernel
theorem dX9_idle_68 : decode cX9_idle 68 = .ok (.iload_n 1, 1) := by decide +kernel
theorem dX9_idle_69 : decode cX9_idle 69 = .ok (.iconst 1, 1) := by decide +kernel
theorem dX9_idle_70 : decode cX9_idle 70 = .ok (.iload_n 2, 1) := by decide +kernel
theorem dX9_idle_71 : decode cX9_idle 71 = .ok (.ishl, 1) := by decide +kernel
theorem dX9_idle_72 : decode cX9_idle 72 = .ok (.ior, 1) := by decide +kernel
theorem dX9_idle_73 : decode cX9_idle 73 = .ok (.istore_n 1, 1) := by decide +kernel
theorem dX9_idle_74 : decode cX9_idle 74 = .ok (.iinc 2 1, 3) := by decide +kernel
theorem dX9_idle_77 : decode cX9_idle 77 = .ok (.goto (-47), 3) := by decide +kernel
theorem dX9_idle_80 : decode cX9_idle 80 = .ok (.iload_n 1, 1) := by decide +kernel
theorem dX9_idle_81 : decode cX9_idle 81 = .ok (.ireturn, 1) := by decide +kernel
theorem dX9_alone_0 : decode cX9_alone 0 = .ok (.aload_n 0, 1) := by decide +kernel
theorem dX9_alone_1 : decode cX9_alone 1 = .ok (.iload_n 1, 1) := by decide +kernel
theorem dX9_alone_2 : decode cX9_alone 2 = .ok (.invokestatic 247, 3) := by decide +kernel
theorem dX9_alone_5 : decode cX9_alone 5 = .ok (.invokevirtual 172, 3) := by decide +kernel
theorem dX9_alone_8 : decode cX9_alone 8 = .ok (.iconst (-1), 1) := by decide +kernel
theorem dX9_alone_9 : decode cX9_alone 9 = .ok (.istore_n 2, 1) := by decide +kernel
theorem dX9_alone_10 : decode cX9_alone 10 = .ok (.iconst 0, 1) := by decide +kernel
theorem dX9_alone_11 : decode cX9_alone 11 = .ok (.istore_n 3, 1) := by decide +kernel
theorem dX9_alone_12 : decode cX9_alone 12 = .ok (.iload_n 3, 1) := by decide +kernel
theorem dX9_alone_13 : decode cX9_alone 13 = .ok (.aload_n 0, 1) := by decide +kernel
theorem dX9_alone_14 : decode cX9_alone 14 = .ok (.getfield 19, 3) := by decide +kernel
theorem dX9_alone_17 : decode cX9_alone 17 = .ok (.getfield 106, 3) := by decide +kernel
theorem dX9_alone_20 : decode cX9_alone 20 = .ok (.getfield 112, 3) := by decide +kernel
theorem dX9_alone_23 : decode cX9_alone 23 = .ok (.if_icmp .ge 37, 3) := by decide +kernel
theorem dX9_alone_26 : decode cX9_alone 26 = .ok (.aload_n 0, 1) := by decide +kernel
theorem dX9_alone_27 : decode cX9_alone 27 = .ok (.getfield 19, 3) := by decide +kernel
theorem dX9_alone_30 : decode cX9_alone 30 = .ok (.getfield 106, 3) := by decide +kernel
theorem dX9_alone_33 : decode cX9_alone 33 = .ok (.getfield 212, 3) := by decide +kernel
theorem dX9_alone_36 : decode cX9_alone 36 = .ok (.iload_n 3, 1) := by decide +kernel
theorem dX9_alone_37 : decode cX9_alone 37 = .ok (.iaload, 1) := by decide +kernel
theorem dX9_alone_38 : decode cX9_alone 38 = .ok (.iload_n 1, 1) := by decide +kernel
theorem dX9_alone_39 : decode cX9_alone 39 = .ok (.if_icmp .eq 6, 3) := by decide +kernel
theorem dX9_alone_42 : decode cX9_alone 42 = .ok (.goto 12, 3) := by decide +kernel
theorem dX9_alone_45 : decode cX9_alone 45 = .ok (.iload_n 2, 1) := by decide +kernel
theorem dX9_alone_46 : decode cX9_alone 46 = .ok (.iconst (-1), 1) := by decide +kernel
theorem dX9_alone_47 : decode cX9_alone 47 = .ok (.if_icmp .eq 5, 3) := by decide +kernel
theorem dX9_alone_50 : decode cX9_alone 50 = .ok (.iconst (-1), 1) := by decide +kernel
theorem dX9_alone_51 : decode cX9_alone 51 = .ok (.ireturn, 1) := by decide +kernel
theorem dX9_alone_52 : decode cX9_alone 52 = .ok (.iload_n 3, 1) := by decide +kernel
theorem dX9_alone_53 : decode cX9_alone 53 = .ok (.istore_n 2, 1) := by decide +kernel
theorem dX9_alone_54 : decode cX9_alone 54 = .ok (.iinc 3 1, 3) := by decide +kernel
theorem dX9_alone_57 : decode cX9_alone 57 = .ok (.goto (-45), 3) := by decide +kernel
theorem dX9_alone_60 : decode cX9_alone 60 = .ok (.iload_n 2, 1) := by decide +kernel
theorem dX9_alone_61 : decode cX9_alone 61 = .ok (.ireturn, 1) := by decide +kernel
theorem dX9_longest_0 : decode cX9_longest 0 = .ok (.aload_n 0, 1) := by decide +kernel
theorem dX9_longest_1 : decode cX9_longest 1 = .ok (.iload_n 1, 1) := by decide +kernel
theorem dX9_longest_2 : decode cX9_longest 2 = .ok (.iconst 0, 1) := by decide +kernel
theorem dX9_longest_3 : decode cX9_longest 3 = .ok (.iconst 1, 1) := by decide +kernel
theorem dX9_longest_4 : decode cX9_longest 4 = .ok (.invokestatic 168, 3) := by decide +kernel
theorem dX9_longest_7 : decode cX9_longest 7 = .ok (.invokevirtual 172, 3) := by decide +kernel
theorem dX9_longest_10 : decode cX9_longest 10 = .ok (.aload_n 0, 1) := by decide +kernel
theorem dX9_longest_11 : decode cX9_longest 11 = .ok (.getfield 19, 3) := by decide +kernel
theorem dX9_longest_14 : decode cX9_longest 14 = .ok (.getfield 106, 3) := by decide +kernel
theorem dX9_longest_17 : decode cX9_longest 17 = .ok (.getfield 231, 3) := by decide +kernel
theorem dX9_longest_20 : decode cX9_longest 20 = .ok (.aload_n 0, 1) := by decide +kernel
theorem dX9_longest_21 : decode cX9_longest 21 = .ok (.getfield 19, 3) := by decide +kernel
theorem dX9_longest_24 : decode cX9_longest 24 = .ok (.getfield 106, 3) := by decide +kernel
theorem dX9_longest_27 : decode cX9_longest 27 = .ok (.getfield 147, 3) := by decide +kernel
theorem dX9_longest_30 : decode cX9_longest 30 = .ok (.invokestatic 328, 3) := by decide +kernel
theorem dX9_longest_33 : decode cX9_longest 33 = .ok (.istore_n 2, 1) := by decide +kernel
theorem dX9_longest_34 : decode cX9_longest 34 = .ok (.iload_n 1, 1) := by decide +kernel
theorem dX9_longest_35 : decode cX9_longest 35 = .ok (.ifCond .eq 8, 3) := by decide +kernel
theorem dX9_longest_38 : decode cX9_longest 38 = .ok (.iload_n 2, 1) := by decide +kernel
theorem dX9_longest_39 : decode cX9_longest 39 = .ok (.iconst (-1), 1) := by decide +kernel
theorem dX9_longest_40 : decode cX9_longest 40 = .ok (.if_icmp .ne 7, 3) := by decide +kernel
theorem dX9_longest_43 : decode cX9_longest 43 = .ok (.iload_n 2, 1) := by decide +kernel
theorem dX9_longest_44 : decode cX9_longest 44 = .ok (.goto 15, 3) := by decide +kernel
theorem dX9_longest_47 : decode cX9_longest 47 = .ok (.aload_n 0, 1) := by decide +kernel
theorem dX9_longest_48 : decode cX9_longest 48 = .ok (.getfield 19, 3) := by decide +kernel
theorem dX9_longest_51 : decode cX9_longest 51 = .ok (.getfield 106, 3) := by decide +kernel
theorem dX9_longest_54 : decode cX9_longest 54 = .ok (.getfield 231, 3) := by decide +kernel
theorem dX9_longest_57 : decode cX9_longest 57 = .ok (.iload_n 2, 1) := by decide +kernel
theorem dX9_longest_58 : decode cX9_longest 58 = .ok (.iaload, 1) := by decide +kernel
theorem dX9_longest_59 : decode cX9_longest 59 = .ok (.ireturn, 1) := by decide +kernel
theorem dX9_chorus_0 : decode cX9_chorus 0 = .ok (.aload_n 0, 1) := by decide +kernel
theorem dX9_chorus_1 : decode cX9_chorus 1 = .ok (.aload_n 0, 1) := by decide +kernel
theorem dX9_chorus_2 : decode cX9_chorus 2 = .ok (.iload_n 1, 1) := by decide +kernel
theorem dX9_chorus_3 : decode cX9_chorus 3 = .ok (.invokevirtual 319, 3) := by decide +kernel
theorem dX9_chorus_6 : decode cX9_chorus 6 = .ok (.invokevirtual 172, 3) := by decide +kernel
theorem dX9_chorus_9 : decode cX9_chorus 9 = .ok (.aload_n 0, 1) := by decide +kernel
theorem dX9_chorus_10 : decode cX9_chorus 10 = .ok (.aload_n 0, 1) := by decide +kernel
theorem dX9_chorus_11 : decode cX9_chorus 11 = .ok (.invokevirtual 339, 3) := by decide +kernel
theorem dX9_chorus_14 : decode cX9_chorus 14 = .ok (.iload_n 1, 1) := by decide +kernel
theorem dX9_chorus_15 : decode cX9_chorus 15 = .ok (.iconst (-1), 1) := by decide +kernel
theorem dX9_chorus_16 : decode cX9_chorus 16 = .ok (.ixor, 1) := by decide +kernel
theorem dX9_chorus_17 : decode cX9_chorus 17 = .ok (.iand, 1) := by decide +kernel
theorem dX9_chorus_18 : decode cX9_chorus 18 = .ok (.invokevirtual 291, 3) := by decide +kernel
theorem dX9_chorus_21 : decode cX9_chorus 21 = .ok (.invokestatic 156, 3) := by decide +kernel
theorem dX9_chorus_24 : decode cX9_chorus 24 = .ok (.ireturn, 1) := by decide +kernel
theorem dX9_spare_0 : decode cX9_spare 0 = .ok (.aload_n 0, 1) := by decide +kernel
theorem dX9_spare_1 : decode cX9_spare 1 = .ok (.iload_n 1, 1) := by decide +kernel
theorem dX9_spare_2 : decode cX9_spare 2 = .ok (.iconst 0, 1) := by decide +kernel
theorem dX9_spare_3 : decode cX9_spare 3 = .ok (.iconst 1, 1) := by decide +kernel
theorem dX9_spare_4 : decode cX9_spare 4 = .ok (.invokestatic 168, 3) := by decide +kernel
theorem dX9_spare_7 : decode cX9_spare 7 = .ok (.invokevirtual 172, 3) := by decide +kernel
theorem dX9_spare_10 : decode cX9_spare 10 = .ok (.aload_n 0, 1) := by decide +kernel
theorem dX9_spare_11 : decode cX9_spare 11 = .ok (.getfield 33, 3) := by decide +kernel
theorem dX9_spare_14 : decode cX9_spare 14 = .ok (.getfield 128, 3) := by decide +kernel
theorem dX9_spare_17 : decode cX9_spare 17 = .ok (.getfield 198, 3) := by decide +kernel
theorem dX9_spare_20 : decode cX9_spare 20 = .ok (.astore_n 2, 1) := by decide +kernel
theorem dX9_spare_21 : decode cX9_spare 21 = .ok (.iconst (-1), 1) := by decide +kernel
theorem dX9_spare_22 : decode cX9_spare 22 = .ok (.istore_n 3, 1) := by decide +kernel
theorem dX9_spare_23 : decode cX9_spare 23 = .ok (.iconst 0, 1) := by decide +kernel
theorem dX9_spare_24 : decode cX9_spare 24 = .ok (.istore 4, 2) := by decide +kernel
theorem dX9_spare_26 : decode cX9_spare 26 = .ok (.iload 4, 2) := by decide +kernel
theorem dX9_spare_28 : decode cX9_spare 28 = .ok (.aload_n 0, 1) := by decide +kernel
theorem dX9_spare_29 : decode cX9_spare 29 = .ok (.getfield 19, 3) := by decide +kernel
theorem dX9_spare_32 : decode cX9_spare 32 = .ok (.getfield 106, 3) := by decide +kernel
theorem dX9_spare_35 : decode cX9_spare 35 = .ok (.getfield 112, 3) := by decide +kernel
theorem dX9_spare_38 : decode cX9_spare 38 = .ok (.if_icmp .ge 27, 3) := by decide +kernel
theorem dX9_spare_41 : decode cX9_spare 41 = .ok (.iload_n 3, 1) := by decide +kernel
theorem dX9_spare_42 : decode cX9_spare 42 = .ok (.iconst (-1), 1) := by decide +kernel
theorem dX9_spare_43 : decode cX9_spare 43 = .ok (.if_icmp .eq 13, 3) := by decide +kernel
theorem dX9_spare_46 : decode cX9_spare 46 = .ok (.aload_n 2, 1) := by decide +kernel
theorem dX9_spare_47 : decode cX9_spare 47 = .ok (.iload 4, 2) := by decide +kernel
theorem dX9_spare_49 : decode cX9_spare 49 = .ok (.iaload, 1) := by decide +kernel
theorem dX9_spare_50 : decode cX9_spare 50 = .ok (.aload_n 2, 1) := by decide +kernel
theorem dX9_spare_51 : decode cX9_spare 51 = .ok (.iload_n 3, 1) := by decide +kernel
theorem dX9_spare_52 : decode cX9_spare 52 = .ok (.iaload, 1) := by decide +kernel
theorem dX9_spare_53 : decode cX9_spare 53 = .ok (.if_icmp .ge 6, 3) := by decide +kernel
theorem dX9_spare_56 : decode cX9_spare 56 = .ok (.iload 4, 2) := by decide +kernel
theorem dX9_spare_58 : decode cX9_spare 58 = .ok (.istore_n 3, 1) := by decide +kernel
theorem dX9_spare_59 : decode cX9_spare 59 = .ok (.iinc 4 1, 3) := by decide +kernel
theorem dX9_spare_62 : decode cX9_spare 62 = .ok (.goto (-36), 3) := by decide +kernel
theorem dX9_spare_65 : decode cX9_spare 65 = .ok (.iload_n 1, 1) := by decide +kernel
theorem dX9_spare_66 : decode cX9_spare 66 = .ok (.ifCond .eq 8, 3) := by decide +kernel
theorem dX9_spare_69 : decode cX9_spare 69 = .ok (.iload_n 3, 1) := by decide +kernel
theorem dX9_spare_70 : decode cX9_spare 70 = .ok (.iconst (-1), 1) := by decide +kernel
theorem dX9_spare_71 : decode cX9_spare 71 = .ok (.if_icmp .ne 7, 3) := by decide +kernel
theorem dX9_spare_74 : decode cX9_spare 74 = .ok (.iload_n 3, 1) := by decide +kernel
theorem dX9_spare_75 : decode cX9_spare 75 = .ok (.goto 6, 3) := by decide +kernel
theorem dX9_spare_78 : decode cX9_spare 78 = .ok (.aload_n 2, 1) := by decide +kernel
theorem dX9_spare_79 : decode cX9_spare 79 = .ok (.iload_n 3, 1) := by decide +kernel
theorem dX9_spare_80 : decode cX9_spare 80 = .ok (.iaload, 1) := by decide +kernel
theorem dX9_spare_81 : decode cX9_spare 81 = .ok (.ireturn, 1) := by decide +kernel
theorem dX9_sunday_0 : decode cX9_sunday 0 = .ok (.aload_n 0, 1) := by decide +kernel
theorem dX9_sunday_1 : decode cX9_sunday 1 = .ok (.iload_n 2, 1) := by decide +kernel
theorem dX9_sunday_2 : decode cX9_sunday 2 = .ok (.iconst 1, 1) := by decide +kernel
theorem dX9_sunday_3 : decode cX9_sunday 3 = .ok (.bipush 48, 2) := by decide +kernel
theorem dX9_sunday_5 : decode cX9_sunday 5 = .ok (.invokestatic 168, 3) := by decide +kernel
theorem dX9_sunday_8 : decode cX9_sunday 8 = .ok (.ifCond .eq 27, 3) := by decide +kernel
theorem dX9_sunday_11 : decode cX9_sunday 11 = .ok (.iload_n 3, 1) := by decide +kernel
theorem dX9_sunday_12 : decode cX9_sunday 12 = .ok (.iconst 0, 1) := by decide +kernel
theorem dX9_sunday_13 : decode cX9_sunday 13 = .ok (.bipush 16, 2) := by decide +kernel
theorem dX9_sunday_15 : decode cX9_sunday 15 = .ok (.invokestatic 168, 3) := by decide +kernel
theorem dX9_sunday_18 : decode cX9_sunday 18 = .ok (.ifCond .eq 17, 3) := by decide +kernel
theorem dX9_sunday_21 : decode cX9_sunday 21 = .ok (.iload 4, 2) := by decide +kernel
theorem dX9_sunday_23 : decode cX9_sunday 23 = .ok (.iconst 0, 1) := by decide +kernel
theorem dX9_sunday_24 : decode cX9_sunday 24 = .ok (.iconst 3, 1) := by decide +kernel
theorem dX9_sunday_25 : decode cX9_sunday 25 = .ok (.invokestatic 168, 3) := by decide +kernel
theorem dX9_sunday_28 : decode cX9_sunday 28 = .ok (.ifCond .eq 7, 3) := by decide +kernel
theorem dX9_sunday_31 : decode cX9_sunday 31 = .ok (.iconst 1, 1) := by decide +kernel
theorem dX9_sunday_32 : decode cX9_sunday 32 = .ok (.goto 4, 3) := by decide +kernel
theorem dX9_sunday_35 : decode cX9_sunday 35 = .ok (.iconst 0, 1) := by decide +kernel
theorem dX9_sunday_36 : decode cX9_sunday 36 = .ok (.invokevirtual 172, 3) := by decide +kernel
theorem dX9_sunday_39 : decode cX9_sunday 39 = .ok (.aload_n 0, 1) := by decide +kernel
theorem dX9_sunday_40 : decode cX9_sunday 40 = .ok (.iload_n 1, 1) := by decide +kernel
theorem dX9_sunday_41 : decode cX9_sunday 41 = .ok (.iload_n 2, 1) := by decide +kernel
theorem dX9_sunday_42 : decode cX9_sunday 42 = .ok (.iload_n 3, 1) := by decide +kernel
theorem dX9_sunday_43 : decode cX9_sunday 43 = .ok (.invokevirtual 342, 3) := by decide +kernel
theorem dX9_sunday_46 : decode cX9_sunday 46 = .ok (.iload 4, 2) := by decide +kernel
theorem dX9_sunday_48 : decode cX9_sunday 48 = .ok (.tableswitch 66 0 2 #[28, 47, 55], 28) := by decide +kernel
theorem dX9_sunday_76 : decode cX9_sunday 76 = .ok (.aload_n 0, 1) := by decide +kernel
theorem dX9_sunday_77 : decode cX9_sunday 77 = .ok (.getfield 44, 3) := by decide +kernel
theorem dX9_sunday_80 : decode cX9_sunday 80 = .ok (.getfield 185, 3) := by decide +kernel
theorem dX9_sunday_83 : decode cX9_sunday 83 = .ok (.aload_n 0, 1) := by decide +kernel
theorem dX9_sunday_84 : decode cX9_sunday 84 = .ok (.getfield 33, 3) := by decide +kernel
theorem dX9_sunday_87 : decode cX9_sunday 87 = .ok (.getfield 128, 3) := by decide +kernel
theorem dX9_sunday_90 : decode cX9_sunday 90 = .ok (.getfield 185, 3) := by decide +kernel
theorem dX9_sunday_93 : decode cX9_sunday 93 = .ok (.isub, 1) := by decide +kernel
theorem dX9_sunday_94 : decode cX9_sunday 94 = .ok (.ireturn, 1) := by decide +kernel
theorem dX9_sunday_95 : decode cX9_sunday 95 = .ok (.aload_n 0, 1) := by decide +kernel
theorem dX9_sunday_96 : decode cX9_sunday 96 = .ok (.getfield 44, 3) := by decide +kernel
theorem dX9_sunday_99 : decode cX9_sunday 99 = .ok (.getfield 182, 3) := by decide +kernel
theorem dX9_sunday_102 : decode cX9_sunday 102 = .ok (.ireturn, 1) := by decide +kernel
theorem dX9_sunday_103 : decode cX9_sunday 103 = .ok (.aload_n 0, 1) := by decide +kernel
theorem dX9_sunday_104 : decode cX9_sunday 104 = .ok (.getfield 44, 3) := by decide +kernel
theorem dX9_sunday_107 : decode cX9_sunday 107 = .ok (.getfield 195, 3) := by decide +kernel
theorem dX9_sunday_110 : decode cX9_sunday 110 = .ok (.invokestatic 191, 3) := by decide +kernel
theorem dX9_sunday_113 : decode cX9_sunday 113 = .ok (.ireturn, 1) := by decide +kernel
theorem dX9_sunday_114 : decode cX9_sunday 114 = .ok (.aload_n 0, 1) := by decide +kernel
theorem dX9_sunday_115 : decode cX9_sunday 115 = .ok (.getfield 44, 3) := by decide +kernel
theorem dX9_sunday_118 : decode cX9_sunday 118 = .ok (.getfield 188, 3) := by decide +kernel
theorem dX9_sunday_121 : decode cX9_sunday 121 = .ok (.invokestatic 191, 3) := by decide +kernel
theorem dX9_sunday_124 : decode cX9_sunday 124 = .ok (.aload_n 0, 1) := by decide +kernel
theorem dX9_sunday_125 : decode cX9_sunday 125 = .ok (.getfield 33, 3) := by decide +kernel
theorem dX9_sunday_128 : decode cX9_sunday 128 = .ok (.getfield 128, 3) := by decide +kernel
theorem dX9_sunday_131 : decode cX9_sunday 131 = .ok (.getfield 188, 3) := by decide +kernel
theorem dX9_sunday_134 : decode cX9_sunday 134 = .ok (.invokestatic 191, 3) := by decide +kernel
theorem dX9_sunday_137 : decode cX9_sunday 137 = .ok (.isub, 1) := by decide +kernel
theorem dX9_sunday_138 : decode cX9_sunday 138 = .ok (.ireturn, 1) := by decide +kernel
theorem dX9_span_0 : decode cX9_span 0 = .ok (.aload_n 0, 1) := by decide +kernel
theorem dX9_span_1 : decode cX9_span 1 = .ok (.iload_n 2, 1) := by decide +kernel
theorem dX9_span_2 : decode cX9_span 2 = .ok (.iconst 1, 1) := by decide +kernel
theorem dX9_span_3 : decode cX9_span 3 = .ok (.bipush 10, 2) := by decide +kernel
theorem dX9_span_5 : decode cX9_span 5 = .ok (.invokestatic 168, 3) := by decide +kernel
theorem dX9_span_8 : decode cX9_span 8 = .ok (.ifCond .eq 28, 3) := by decide +kernel
theorem dX9_span_11 : decode cX9_span 11 = .ok (.iload_n 3, 1) := by decide +kernel
theorem dX9_span_12 : decode cX9_span 12 = .ok (.iconst 1, 1) := by decide +kernel
theorem dX9_span_13 : decode cX9_span 13 = .ok (.bipush 48, 2) := by decide +kernel
theorem dX9_span_15 : decode cX9_span 15 = .ok (.invokestatic 168, 3) := by decide +kernel
theorem dX9_span_18 : decode cX9_span 18 = .ok (.ifCond .eq 18, 3) := by decide +kernel
theorem dX9_span_21 : decode cX9_span 21 = .ok (.iload 4, 2) := by decide +kernel
theorem dX9_span_23 : decode cX9_span 23 = .ok (.iconst 0, 1) := by decide +kernel
theorem dX9_span_24 : decode cX9_span 24 = .ok (.bipush 16, 2) := by decide +kernel
theorem dX9_span_26 : decode cX9_span 26 = .ok (.invokestatic 168, 3) := by decide +kernel
theorem dX9_span_29 : decode cX9_span 29 = .ok (.ifCond .eq 7, 3) := by decide +kernel
theorem dX9_span_32 : decode cX9_span 32 = .ok (.iconst 1, 1) := by decide +kernel
theorem dX9_span_33 : decode cX9_span 33 = .ok (.goto 4, 3) := by decide +kernel
theorem dX9_span_36 : decode cX9_span 36 = .ok (.iconst 0, 1) := by decide +kernel
theorem dX9_span_37 : decode cX9_span 37 = .ok (.invokevirtual 172, 3) := by decide +kernel
theorem dX9_span_40 : decode cX9_span 40 = .ok (.aload_n 0, 1) := by decide +kernel
theorem dX9_span_41 : decode cX9_span 41 = .ok (.iload 5, 2) := by decide +kernel
theorem dX9_span_43 : decode cX9_span 43 = .ok (.iconst 0, 1) := by decide +kernel
theorem dX9_span_44 : decode cX9_span 44 = .ok (.iconst 2, 1) := by decide +kernel
theorem dX9_span_45 : decode cX9_span 45 = .ok (.invokestatic 168, 3) := by decide +kernel
theorem dX9_span_48 : decode cX9_span 48 = .ok (.ifCond .eq 16, 3) := by decide +kernel
theorem dX9_span_51 : decode cX9_span 51 = .ok (.aload_n 0, 1) := by decide +kernel
theorem dX9_span_52 : decode cX9_span 52 = .ok (.iload 6, 2) := by decide +kernel
theorem dX9_span_54 : decode cX9_span 54 = .ok (.invokevirtual 205, 3) := by decide +kernel
theorem dX9_span_57 : decode cX9_span 57 = .ok (.ifCond .eq 7, 3) := by decide +kernel
theorem dX9_span_60 : decode cX9_span 60 = .ok (.iconst 1, 1) := by decide +kernel
theorem dX9_span_61 : decode cX9_span 61 = .ok (.goto 4, 3) := by decide +kernel
theorem dX9_span_64 : decode cX9_span 64 = .ok (.iconst 0, 1) := by decide +kernel
theorem dX9_span_65 : decode cX9_span 65 = .ok (.invokevirtual 172, 3) := by decide +kernel
theorem dX9_span_68 : decode cX9_span 68 = .ok (.iconst 0, 1) := by decide +kernel
theorem dX9_span_69 : decode cX9_span 69 = .ok (.istore 7, 2) := by decide +kernel
theorem dX9_span_71 : decode cX9_span 71 = .ok (.iconst 0, 1) := by decide +kernel
theorem dX9_span_72 : decode cX9_span 72 = .ok (.istore 8, 2) := by decide +kernel
theorem dX9_span_74 : decode cX9_span 74 = .ok (.iconst 0, 1) := by decide +kernel
theorem dX9_span_75 : decode cX9_span 75 = .ok (.istore 9, 2) := by decide +kernel
theorem dX9_span_77 : decode cX9_span 77 = .ok (.iconst 0, 1) := by decide +kernel
theorem dX9_span_78 : decode cX9_span 78 = .ok (.istore 10, 2) := by decide +kernel
theorem dX9_span_80 : decode cX9_span 80 = .ok (.iload 10, 2) := by decide +kernel
theorem dX9_span_82 : decode cX9_span 82 = .ok (.iload_n 2, 1) := by decide +kernel
theorem dX9_span_83 : decode cX9_span 83 = .ok (.if_icmp .ge 85, 3) := by decide +kernel
theorem dX9_span_86 : decode cX9_span 86 = .ok (.aload_n 0, 1) := by decide +kernel
theorem dX9_span_87 : decode cX9_span 87 = .ok (.iload_n 1, 1) := by decide +kernel
theorem dX9_span_88 : decode cX9_span 88 = .ok (.iload 10, 2) := by decide +kernel
theorem dX9_span_90 : decode cX9_span 90 = .ok (.iadd, 1) := by decide +kernel
theorem dX9_span_91 : decode cX9_span 91 = .ok (.iload_n 3, 1) := by decide +kernel
theorem dX9_span_92 : decode cX9_span 92 = .ok (.iload 4, 2) := by decide +kernel
theorem dX9_span_94 : decode cX9_span 94 = .ok (.invokevirtual 342, 3) := by decide +kernel
theorem dX9_span_97 : decode cX9_span 97 = .ok (.aload_n 0, 1) := by decide +kernel
theorem dX9_span_98 : decode cX9_span 98 = .ok (.getfield 44, 3) := by decide +kernel
theorem dX9_span_101 : decode cX9_span 101 = .ok (.getfield 185, 3) := by decide +kernel
theorem dX9_span_104 : decode cX9_span 104 = .ok (.aload_n 0, 1) := by decide +kernel
theorem dX9_span_105 : decode cX9_span 105 = .ok (.getfield 33, 3) := by decide +kernel
theorem dX9_span_108 : decode cX9_span 108 = .ok (.getfield 128, 3) := by decide +kernel
theorem dX9_span_111 : decode cX9_span 111 = .ok (.getfield 185, 3) := by decide +kernel
theorem dX9_span_114 : decode cX9_span 114 = .ok (.isub, 1) := by decide +kernel
theorem dX9_span_115 : decode cX9_span 115 = .ok (.istore 11, 2) := by decide +kernel
theorem dX9_span_117 : decode cX9_span 117 = .ok (.iload 10, 2) := by decide +kernel
theorem dX9_span_119 : decode cX9_span 119 = .ok (.ifCond .ne 8, 3) := by decide +kernel
theorem dX9_span_122 : decode cX9_span 122 = .ok (.iload 11, 2) := by decide +kernel
theorem dX9_span_124 : decode cX9_span 124 = .ok (.goto 10, 3) := by decide +kernel
theorem dX9_span_127 : decode cX9_span 127 = .ok (.iload 7, 2) := by decide +kernel
theorem dX9_span_129 : decode cX9_span 129 = .ok (.iload 11, 2) := by decide +kernel
theorem dX9_span_131 : decode cX9_span 131 = .ok (.invokestatic 325, 3) := by decide +kernel
theorem dX9_span_134 : decode cX9_span 134 = .ok (.istore 7, 2) := by decide +kernel
theorem dX9_span_136 : decode cX9_span 136 = .ok (.iload 8, 2) := by decide +kernel
theorem dX9_span_138 : decode cX9_span 138 = .ok (.iload 11, 2) := by decide +kernel
theorem dX9_span_140 : decode cX9_span 140 = .ok (.invokestatic 300, 3) := by decide +kernel
theorem dX9_span_143 : decode cX9_span 143 = .ok (.istore 8, 2) := by decide +kernel
theorem dX9_span_145 : decode cX9_span 145 = .ok (.iload 9, 2) := by decide +kernel
theorem dX9_span_147 : decode cX9_span 147 = .ok (.aload_n 0, 1) := by decide +kernel
theorem dX9_span_148 : decode cX9_span 148 = .ok (.getfield 44, 3) := by decide +kernel
theorem dX9_span_151 : decode cX9_span 151 = .ok (.getfield 182, 3) := by decide +kernel
theorem dX9_span_154 : decode cX9_span 154 = .ok (.iload 6, 2) := by decide +kernel
theorem dX9_span_156 : decode cX9_span 156 = .ok (.ishr, 1) := by decide +kernel
theorem dX9_span_157 : decode cX9_span 157 = .ok (.iconst 1, 1) := by decide +kernel
theorem dX9_span_158 : decode cX9_span 158 = .ok (.iand, 1) := by decide +kernel
theorem dX9_span_159 : decode cX9_span 159 = .ok (.iadd, 1) := by decide +kernel
theorem dX9_span_160 : decode cX9_span 160 = .ok (.istore 9, 2) := by decide +kernel
theorem dX9_span_162 : decode cX9_span 162 = .ok (.iinc 10 1, 3) := by decide +kernel
theorem dX9_span_165 : decode cX9_span 165 = .ok (.goto (-85), 3) := by decide +kernel
theorem dX9_span_168 : decode cX9_span 168 = .ok (.iload 5, 2) := by decide +kernel
theorem dX9_span_170 : decode cX9_span 170 = .ok (.ifCond .ne 8, 3) := by decide +kernel
theorem dX9_span_173 : decode cX9_span 173 = .ok (.iload 7, 2) := by decide +kernel
theorem dX9_span_175 : decode cX9_span 175 = .ok (.goto 16, 3) := by decide +kernel
theorem dX9_span_178 : decode cX9_span 178 = .ok (.iload 5, 2) := by decide +kernel
theorem dX9_span_180 : decode cX9_span 180 = .ok (.iconst 1, 1) := by decide +kernel
theorem dX9_span_181 : decode cX9_span 181 = .ok (.if_icmp .ne 8, 3) := by decide +kernel
theorem dX9_span_184 : decode cX9_span 184 = .ok (.iload 8, 2) := by decide +kernel
theorem dX9_span_186 : decode cX9_span 186 = .ok (.goto 5, 3) := by decide +kernel
theorem dX9_span_189 : decode cX9_span 189 = .ok (.iload 9, 2) := by decide +kernel
theorem dX9_span_191 : decode cX9_span 191 = .ok (.ireturn, 1) := by decide +kernel
theorem dX9_image_0 : decode cX9_image 0 = .ok (.aload_n 0, 1) := by decide +kernel
theorem dX9_image_1 : decode cX9_image 1 = .ok (.getfield 346, 3) := by decide +kernel
theorem dX9_image_4 : decode cX9_image 4 = .ok (.iconst 3, 1) := by decide +kernel
theorem dX9_image_5 : decode cX9_image 5 = .ok (.if_icmp .lt 5, 3) := by decide +kernel
theorem dX9_image_8 : decode cX9_image 8 = .ok (.iconst (-1), 1) := by decide +kernel
theorem dX9_image_9 : decode cX9_image 9 = .ok (.ireturn, 1) := by decide +kernel
theorem dX9_image_10 : decode cX9_image 10 = .ok (.aload_n 0, 1) := by decide +kernel
theorem dX9_image_11 : decode cX9_image 11 = .ok (.getfield 37, 3) := by decide +kernel
theorem dX9_image_14 : decode cX9_image 14 = .ok (.aload_n 0, 1) := by decide +kernel
theorem dX9_image_15 : decode cX9_image 15 = .ok (.getfield 346, 3) := by decide +kernel
theorem dX9_image_18 : decode cX9_image 18 = .ok (.aaload, 1) := by decide +kernel
theorem dX9_image_19 : decode cX9_image 19 = .ok (.aload_n 0, 1) := by decide +kernel
theorem dX9_image_20 : decode cX9_image 20 = .ok (.getfield 33, 3) := by decide +kernel
theorem dX9_image_23 : decode cX9_image 23 = .ok (.invokevirtual 349, 3) := by decide +kernel
theorem dX9_image_26 : decode cX9_image 26 = .ok (.aload_n 0, 1) := by decide +kernel
theorem dX9_image_27 : decode cX9_image 27 = .ok (.dup, 1) := by decide +kernel
theorem dX9_image_28 : decode cX9_image 28 = .ok (.getfield 346, 3) := by decide +kernel
theorem dX9_image_31 : decode cX9_image 31 = .ok (.iconst 1, 1) := by decide +kernel
theorem dX9_image_32 : decode cX9_image 32 = .ok (.iadd, 1) := by decide +kernel
theorem dX9_image_33 : decode cX9_image 33 = .ok (.putfield 346, 3) := by decide +kernel
theorem dX9_image_36 : decode cX9_image 36 = .ok (.aload_n 0, 1) := by decide +kernel
theorem dX9_image_37 : decode cX9_image 37 = .ok (.getfield 346, 3) := by decide +kernel
theorem dX9_image_40 : decode cX9_image 40 = .ok (.ireturn, 1) := by decide +kernel
theorem dX9_restore_0 : decode cX9_restore 0 = .ok (.aload_n 0, 1) := by decide +kernel
theorem dX9_restore_1 : decode cX9_restore 1 = .ok (.getfield 346, 3) := by decide +kernel
theorem dX9_restore_4 : decode cX9_restore 4 = .ok (.ifCond .gt 5, 3) := by decide +kernel
theorem dX9_restore_7 : decode cX9_restore 7 = .ok (.iconst (-1), 1) := by decide +kernel
theorem dX9_restore_8 : decode cX9_restore 8 = .ok (.ireturn, 1) := by decide +kernel
theorem dX9_restore_9 : decode cX9_restore 9 = .ok (.aload_n 0, 1) := by decide +kernel
theorem dX9_restore_10 : decode cX9_restore 10 = .ok (.dup, 1) := by decide +kernel
theorem dX9_restore_11 : decode cX9_restore 11 = .ok (.getfield 346, 3) := by decide +kernel
theorem dX9_restore_14 : decode cX9_restore 14 = .ok (.iconst 1, 1) := by decide +kernel
theorem dX9_restore_15 : decode cX9_restore 15 = .ok (.isub, 1) := by decide +kernel
theorem dX9_restore_16 : decode cX9_restore 16 = .ok (.putfield 346, 3) := by decide +kernel
theorem dX9_restore_19 : decode cX9_restore 19 = .ok (.aload_n 0, 1) := by decide +kernel
theorem dX9_restore_20 : decode cX9_restore 20 = .ok (.getfield 33, 3) := by decide +kernel
theorem dX9_restore_23 : decode cX9_restore 23 = .ok (.aload_n 0, 1) := by decide +kernel
theorem dX9_restore_24 : decode cX9_restore 24 = .ok (.getfield 37, 3) := by decide +kernel
theorem dX9_restore_27 : decode cX9_restore 27 = .ok (.aload_n 0, 1) := by decide +kernel
theorem dX9_restore_28 : decode cX9_restore 28 = .ok (.getfield 346, 3) := by decide +kernel
theorem dX9_restore_31 : decode cX9_restore 31 = .ok (.aaload, 1) := by decide +kernel
theorem dX9_restore_32 : decode cX9_restore 32 = .ok (.invokevirtual 349, 3) := by decide +kernel
theorem dX9_restore_35 : decode cX9_restore 35 = .ok (.aload_n 0, 1) := by decide +kernel
theorem dX9_restore_36 : decode cX9_restore 36 = .ok (.iconst 0, 1) := by decide +kernel
theorem dX9_restore_37 : decode cX9_restore 37 = .ok (.putfield 141, 3) := by decide +kernel
theorem dX9_restore_40 : decode cX9_restore 40 = .ok (.aload_n 0, 1) := by decide +kernel
theorem dX9_restore_41 : decode cX9_restore 41 = .ok (.getfield 346, 3) := by decide +kernel
theorem dX9_restore_44 : decode cX9_restore 44 = .ok (.ireturn, 1) := by decide +kernel
theorem dX9_status_0 : decode cX9_status 0 = .ok (.iload_n 1, 1) := by decide +kernel
theorem dX9_status_1 : decode cX9_status 1 = .ok (.ifCond .ne 10, 3) := by decide +kernel
theorem dX9_status_4 : decode cX9_status 4 = .ok (.aload_n 0, 1) := by decide +kernel
theorem dX9_status_5 : decode cX9_status 5 = .ok (.getfield 352, 3) := by decide +kernel
theorem dX9_status_8 : decode cX9_status 8 = .ok (.goto 16, 3) := by decide +kernel
theorem dX9_status_11 : decode cX9_status 11 = .ok (.iload_n 1, 1) := by decide +kernel
theorem dX9_status_12 : decode cX9_status 12 = .ok (.iconst 1, 1) := by decide +kernel
theorem dX9_status_13 : decode cX9_status 13 = .ok (.if_icmp .ne 10, 3) := by decide +kernel
theorem dX9_status_16 : decode cX9_status 16 = .ok (.aload_n 0, 1) := by decide +kernel
theorem dX9_status_17 : decode cX9_status 17 = .ok (.getfield 355, 3) := by decide +kernel
theorem dX9_status_20 : decode cX9_status 20 = .ok (.goto 4, 3) := by decide +kernel
theorem dX9_status_23 : decode cX9_status 23 = .ok (.iconst (-1), 1) := by decide +kernel
theorem dX9_status_24 : decode cX9_status 24 = .ok (.ireturn, 1) := by decide +kernel
theorem dX9_count_0 : decode cX9_count 0 = .ok (.iload_n 1, 1) := by decide +kernel
theorem dX9_count_1 : decode cX9_count 1 = .ok (.tableswitch 48 0 2 #[27, 32, 40], 27) := by decide +kernel
theorem dX9_count_28 : decode cX9_count 28 = .ok (.aload_n 0, 1) := by decide +kernel
theorem dX9_count_29 : decode cX9_count 29 = .ok (.getfield 346, 3) := by decide +kernel
theorem dX9_count_32 : decode cX9_count 32 = .ok (.ireturn, 1) := by decide +kernel
theorem dX9_count_33 : decode cX9_count 33 = .ok (.aload_n 0, 1) := by decide +kernel
theorem dX9_count_34 : decode cX9_count 34 = .ok (.getfield 10, 3) := by decide +kernel
theorem dX9_count_37 : decode cX9_count 37 = .ok (.getfield 83, 3) := by decide +kernel
theorem dX9_count_40 : decode cX9_count 40 = .ok (.ireturn, 1) := by decide +kernel
theorem dX9_count_41 : decode cX9_count 41 = .ok (.aload_n 0, 1) := by decide +kernel
theorem dX9_count_42 : decode cX9_count 42 = .ok (.getfield 33, 3) := by decide +kernel
theorem dX9_count_45 : decode cX9_count 45 = .ok (.getfield 119, 3) := by decide +kernel
theorem dX9_count_48 : decode cX9_count 48 = .ok (.ireturn, 1) := by decide +kernel
theorem dX9_count_49 : decode cX9_count 49 = .ok (.iconst (-1), 1) := by decide +kernel
theorem dX9_count_50 : decode cX9_count 50 = .ok (.ireturn, 1) := by decide +kernel
theorem dX9_demand_0 : decode cX9_demand 0 = .ok (.iload_n 1, 1) := by decide +kernel
theorem dX9_demand_1 : decode cX9_demand 1 = .ok (.ifCond .ne 24, 3) := by decide +kernel
theorem dX9_demand_4 : decode cX9_demand 4 = .ok (.aload_n 0, 1) := by decide +kernel
theorem dX9_demand_5 : decode cX9_demand 5 = .ok (.dup, 1) := by decide +kernel
theorem dX9_demand_6 : decode cX9_demand 6 = .ok (.getfield 355, 3) := by decide +kernel
theorem dX9_demand_9 : decode cX9_demand 9 = .ok (.iconst 1, 1) := by decide +kernel
theorem dX9_demand_10 : decode cX9_demand 10 = .ok (.iadd, 1) := by decide +kernel
theorem dX9_demand_11 : decode cX9_demand 11 = .ok (.putfield 355, 3) := by decide +kernel
theorem dX9_demand_14 : decode cX9_demand 14 = .ok (.new 358, 3) := by decide +kernel
theorem dX9_demand_17 : decode cX9_demand 17 = .ok (.dup, 1) := by decide +kernel
theorem dX9_demand_18 : decode cX9_demand 18 = .ok (.ldc_w 360, 3) := by decide +kernel
theorem dX9_demand_21 : decode cX9_demand 21 = .ok (.invokespecial 362, 3) := by decide +kernel
theorem dX9_demand_24 : decode cX9_demand 24 = .ok (.athrow, 1) := by decide +kernel
theorem dX9_demand_25 : decode cX9_demand 25 = .ok (.return_, 1) := by decide +kernel
theorem dX9_find_0 : decode cX9_find 0 = .ok (.iload_n 1, 1) := by decide +kernel
theorem dX9_find_1 : decode cX9_find 1 = .ok (.ifCond .ne 24, 3) := by decide +kernel
theorem dX9_find_4 : decode cX9_find 4 = .ok (.aload_n 0, 1) := by decide +kernel
theorem dX9_find_5 : decode cX9_find 5 = .ok (.dup, 1) := by decide +kernel
theorem dX9_find_6 : decode cX9_find 6 = .ok (.getfield 352, 3) := by decide +kernel
theorem dX9_find_9 : decode cX9_find 9 = .ok (.iconst 1, 1) := by decide +kernel
theorem dX9_find_10 : decode cX9_find 10 = .ok (.iadd, 1) := by decide +kernel
theorem dX9_find_11 : decode cX9_find 11 = .ok (.putfield 352, 3) := by decide +kernel
theorem dX9_find_14 : decode cX9_find 14 = .ok (.new 365, 3) := by decide +kernel
theorem dX9_find_17 : decode cX9_find 17 = .ok (.dup, 1) := by decide +kernel
theorem dX9_find_18 : decode cX9_find 18 = .ok (.ldc_w 367, 3) := by decide +kernel
theorem dX9_find_21 : decode cX9_find 21 = .ok (.invokespecial 369, 3) := by decide +kernel
theorem dX9_find_24 : decode cX9_find 24 = .ok (.athrow, 1) := by decide +kernel
theorem dX9_find_25 : decode cX9_find 25 = .ok (.return_, 1) := by decide +kernel
theorem dX9_openText_0 : decode cX9_openText 0 = .ok (.aload_n 0, 1) := by decide +kernel
theorem dX9_openText_1 : decode cX9_openText 1 = .ok (.iload_n 1, 1) := by decide +kernel
theorem dX9_openText_2 : decode cX9_openText 2 = .ok (.iconst 0, 1) := by decide +kernel
theorem dX9_openText_3 : decode cX9_openText 3 = .ok (.iload_n 2, 1) := by decide +kernel
theorem dX9_openText_4 : decode cX9_openText 4 = .ok (.invokestatic 168, 3) := by decide +kernel
theorem dX9_openText_7 : decode cX9_openText 7 = .ok (.ifCond .eq 18, 3) := by decide +kernel
theorem dX9_openText_10 : decode cX9_openText 10 = .ok (.iload_n 1, 1) := by decide +kernel
theorem dX9_openText_11 : decode cX9_openText 11 = .ok (.aload_n 0, 1) := by decide +kernel
theorem dX9_openText_12 : decode cX9_openText 12 = .ok (.getfield 10, 3) := by decide +kernel
theorem dX9_openText_15 : decode cX9_openText 15 = .ok (.getfield 83, 3) := by decide +kernel
theorem dX9_openText_18 : decode cX9_openText 18 = .ok (.if_icmp .gt 7, 3) := by decide +kernel
theorem dX9_openText_21 : decode cX9_openText 21 = .ok (.iconst 1, 1) := by decide +kernel
theorem dX9_openText_22 : decode cX9_openText 22 = .ok (.goto 4, 3) := by decide +kernel
theorem dX9_openText_25 : decode cX9_openText 25 = .ok (.iconst 0, 1) := by decide +kernel
theorem dX9_openText_26 : decode cX9_openText 26 = .ok (.invokevirtual 172, 3) := by decide +kernel
theorem dX9_openText_29 : decode cX9_openText 29 = .ok (.aload_n 0, 1) := by decide +kernel
theorem dX9_openText_30 : decode cX9_openText 30 = .ok (.getfield 10, 3) := by decide +kernel
theorem dX9_openText_33 : decode cX9_openText 33 = .ok (.iload_n 1, 1) := by decide +kernel
theorem dX9_openText_34 : decode cX9_openText 34 = .ok (.invokevirtual 370, 3) := by decide +kernel
theorem dX9_openText_37 : decode cX9_openText 37 = .ok (.return_, 1) := by decide +kernel
theorem dX9_beginAnew_0 : decode cX9_beginAnew 0 = .ok (.aload_n 0, 1) := by decide +kernel
theorem dX9_beginAnew_1 : decode cX9_beginAnew 1 = .ok (.getfield 19, 3) := by decide +kernel
theorem dX9_beginAnew_4 : decode cX9_beginAnew 4 = .ok (.getfield 116, 3) := by decide +kernel
theorem dX9_beginAnew_7 : decode cX9_beginAnew 7 = .ok (.invokevirtual 373, 3) := by decide +kernel
theorem dX9_beginAnew_10 : decode cX9_beginAnew 10 = .ok (.aload_n 0, 1) := by decide +kernel
theorem dX9_beginAnew_11 : decode cX9_beginAnew 11 = .ok (.getfield 76, 3) := by decide +kernel
theorem dX9_beginAnew_14 : decode cX9_beginAnew 14 = .ok (.invokevirtual 376, 3) := by decide +kernel
theorem dX9_beginAnew_17 : decode cX9_beginAnew 17 = .ok (.aload_n 0, 1) := by decide +kernel
theorem dX9_beginAnew_18 : decode cX9_beginAnew 18 = .ok (.getfield 33, 3) := by decide +kernel
theorem dX9_beginAnew_21 : decode cX9_beginAnew 21 = .ok (.aload_n 0, 1) := by decide +kernel
theorem dX9_beginAnew_22 : decode cX9_beginAnew 22 = .ok (.getfield 19, 3) := by decide +kernel
theorem dX9_beginAnew_25 : decode cX9_beginAnew 25 = .ok (.getfield 106, 3) := by decide +kernel
theorem dX9_beginAnew_28 : decode cX9_beginAnew 28 = .ok (.invokevirtual 379, 3) := by decide +kernel
theorem dX9_beginAnew_31 : decode cX9_beginAnew 31 = .ok (.aload_n 0, 1) := by decide +kernel
theorem dX9_beginAnew_32 : decode cX9_beginAnew 32 = .ok (.iconst 0, 1) := by decide +kernel
theorem dX9_beginAnew_33 : decode cX9_beginAnew 33 = .ok (.putfield 346, 3) := by decide +kernel
theorem dX9_beginAnew_36 : decode cX9_beginAnew 36 = .ok (.aload_n 0, 1) := by decide +kernel
theorem dX9_beginAnew_37 : decode cX9_beginAnew 37 = .ok (.iconst 0, 1) := by decide +kernel
theorem dX9_beginAnew_38 : decode cX9_beginAnew 38 = .ok (.putfield 141, 3) := by decide +kernel
theorem dX9_beginAnew_41 : decode cX9_beginAnew 41 = .ok (.return_, 1) := by decide +kernel
theorem dX9_within_0 : decode cX9_within 0 = .ok (.iload_n 0, 1) := by decide +kernel
theorem dX9_within_1 : decode cX9_within 1 = .ok (.iload_n 1, 1) := by decide +kernel
theorem dX9_within_2 : decode cX9_within 2 = .ok (.if_icmp .lt 12, 3) := by decide +kernel
theorem dX9_within_5 : decode cX9_within 5 = .ok (.iload_n 0, 1) := by decide +kernel
theorem dX9_within_6 : decode cX9_within 6 = .ok (.iload_n 2, 1) := by decide +kernel
theorem dX9_within_7 : decode cX9_within 7 = .ok (.if_icmp .gt 7, 3) := by decide +kernel
theorem dX9_within_10 : decode cX9_within 10 = .ok (.iconst 1, 1) := by decide +kernel
theorem dX9_within_11 : decode cX9_within 11 = .ok (.goto 4, 3) := by decide +kernel
theorem dX9_within_14 : decode cX9_within 14 = .ok (.iconst 0, 1) := by decide +kernel
theorem dX9_within_15 : decode cX9_within 15 = .ok (.ireturn, 1) := by decide +kernel
theorem dX9_isVowel_0 : decode cX9_isVowel 0 = .ok (.iload_n 0, 1) := by decide +kernel
theorem dX9_isVowel_1 : decode cX9_isVowel 1 = .ok (.iconst 0, 1) := by decide +kernel
theorem dX9_isVowel_2 : decode cX9_isVowel 2 = .ok (.iconst 5, 1) := by decide +kernel
theorem dX9_isVowel_3 : decode cX9_isVowel 3 = .ok (.invokestatic 168, 3) := by decide +kernel
theorem dX9_isVowel_6 : decode cX9_isVowel 6 = .ok (.ireturn, 1) := by decide +kernel
theorem dX9_isSinger_0 : decode cX9_isSinger 0 = .ok (.iload_n 1, 1) := by decide +kernel
theorem dX9_isSinger_1 : decode cX9_isSinger 1 = .ok (.ifCond .lt 21, 3) := by decide +kernel
theorem dX9_isSinger_4 : decode cX9_isSinger 4 = .ok (.iload_n 1, 1) := by decide +kernel
theorem dX9_isSinger_5 : decode cX9_isSinger 5 = .ok (.aload_n 0, 1) := by decide +kernel
theorem dX9_isSinger_6 : decode cX9_isSinger 6 = .ok (.getfield 19, 3) := by decide +kernel
theorem dX9_isSinger_9 : decode cX9_isSinger 9 = .ok (.getfield 106, 3) := by decide +kernel
theorem dX9_isSinger_12 : decode cX9_isSinger 12 = .ok (.getfield 112, 3) := by decide +kernel
theorem dX9_isSinger_15 : decode cX9_isSinger 15 = .ok (.if_icmp .ge 7, 3) := by decide +kernel
theorem dX9_isSinger_18 : decode cX9_isSinger 18 = .ok (.iconst 1, 1) := by decide +kernel
theorem dX9_isSinger_19 : decode cX9_isSinger 19 = .ok (.goto 4, 3) := by decide +kernel
theorem dX9_isSinger_22 : decode cX9_isSinger 22 = .ok (.iconst 0, 1) := by decide +kernel
theorem dX9_isSinger_23 : decode cX9_isSinger 23 = .ok (.ireturn, 1) := by decide +kernel
theorem dX9_isNote_0 : decode cX9_isNote 0 = .ok (.iload_n 1, 1) := by decide +kernel
theorem dX9_isNote_1 : decode cX9_isNote 1 = .ok (.ifCond .lt 21, 3) := by decide +kernel
theorem dX9_isNote_4 : decode cX9_isNote 4 = .ok (.iload_n 1, 1) := by decide +kernel
theorem dX9_isNote_5 : decode cX9_isNote 5 = .ok (.aload_n 0, 1) := by decide +kernel
theorem dX9_isNote_6 : decode cX9_isNote 6 = .ok (.getfield 19, 3) := by decide +kernel
theorem dX9_isNote_9 : decode cX9_isNote 9 = .ok (.getfield 106, 3) := by decide +kernel
theorem dX9_isNote_12 : decode cX9_isNote 12 = .ok (.getfield 147, 3) := by decide +kernel
theorem dX9_isNote_15 : decode cX9_isNote 15 = .ok (.if_icmp .ge 7, 3) := by decide +kernel
theorem dX9_isNote_18 : decode cX9_isNote 18 = .ok (.iconst 1, 1) := by decide +kernel
theorem dX9_isNote_19 : decode cX9_isNote 19 = .ok (.goto 4, 3) := by decide +kernel
theorem dX9_isNote_22 : decode cX9_isNote 22 = .ok (.iconst 0, 1) := by decide +kernel
theorem dX9_isNote_23 : decode cX9_isNote 23 = .ok (.ireturn, 1) := by decide +kernel
theorem dX9_allSingers_0 : decode cX9_allSingers 0 = .ok (.iconst 1, 1) := by decide +kernel
theorem dX9_allSingers_1 : decode cX9_allSingers 1 = .ok (.aload_n 0, 1) := by decide +kernel
theorem dX9_allSingers_2 : decode cX9_allSingers 2 = .ok (.getfield 19, 3) := by decide +kernel
theorem dX9_allSingers_5 : decode cX9_allSingers 5 = .ok (.getfield 106, 3) := by decide +kernel
theorem dX9_allSingers_8 : decode cX9_allSingers 8 = .ok (.getfield 112, 3) := by decide +kernel
theorem dX9_allSingers_11 : decode cX9_allSingers 11 = .ok (.ishl, 1) := by decide +kernel
theorem dX9_allSingers_12 : decode cX9_allSingers 12 = .ok (.iconst 1, 1) := by decide +kernel
theorem dX9_allSingers_13 : decode cX9_allSingers 13 = .ok (.isub, 1) := by decide +kernel
theorem dX9_allSingers_14 : decode cX9_allSingers 14 = .ok (.ireturn, 1) := by decide +kernel
theorem dX9_areSingers_0 : decode cX9_areSingers 0 = .ok (.iload_n 1, 1) := by decide +kernel
theorem dX9_areSingers_1 : decode cX9_areSingers 1 = .ok (.aload_n 0, 1) := by decide +kernel
theorem dX9_areSingers_2 : decode cX9_areSingers 2 = .ok (.invokevirtual 339, 3) := by decide +kernel
theorem dX9_areSingers_5 : decode cX9_areSingers 5 = .ok (.iconst (-1), 1) := by decide +kernel
theorem dX9_areSingers_6 : decode cX9_areSingers 6 = .ok (.ixor, 1) := by decide +kernel
theorem dX9_areSingers_7 : decode cX9_areSingers 7 = .ok (.iand, 1) := by decide +kernel
theorem dX9_areSingers_8 : decode cX9_areSingers 8 = .ok (.ifCond .ne 7, 3) := by decide +kernel
theorem dX9_areSingers_11 : decode cX9_areSingers 11 = .ok (.iconst 1, 1) := by decide +kernel
theorem dX9_areSingers_12 : decode cX9_areSingers 12 = .ok (.goto 4, 3) := by decide +kernel
theorem dX9_areSingers_15 : decode cX9_areSingers 15 = .ok (.iconst 0, 1) := by decide +kernel
theorem dX9_areSingers_16 : decode cX9_areSingers 16 = .ok (.ireturn, 1) := by decide +kernel
theorem dX9_total_0 : decode cX9_total 0 = .ok (.iconst 0, 1) := by decide +kernel
theorem dX9_total_1 : decode cX9_total 1 = .ok (.istore_n 1, 1) := by decide +kernel
theorem dX9_total_2 : decode cX9_total 2 = .ok (.iconst 0, 1) := by decide +kernel
theorem dX9_total_3 : decode cX9_total 3 = .ok (.istore_n 2, 1) := by decide +kernel
theorem dX9_total_4 : decode cX9_total 4 = .ok (.iload_n 2, 1) := by decide +kernel
theorem dX9_total_5 : decode cX9_total 5 = .ok (.aload_n 0, 1) := by decide +kernel
theorem dX9_total_6 : decode cX9_total 6 = .ok (.arraylength, 1) := by decide +kernel
theorem dX9_total_7 : decode cX9_total 7 = .ok (.if_icmp .ge 15, 3) := by decide +kernel
theorem dX9_total_10 : decode cX9_total 10 = .ok (.iload_n 1, 1) := by decide +kernel
theorem dX9_total_11 : decode cX9_total 11 = .ok (.aload_n 0, 1) := by decide +kernel
theorem dX9_total_12 : decode cX9_total 12 = .ok (.iload_n 2, 1) := by decide +kernel
theorem dX9_total_13 : decode cX9_total 13 = .ok (.iaload, 1) := by decide +kernel
theorem dX9_total_14 : decode cX9_total 14 = .ok (.iadd, 1) := by decide +kernel
theorem dX9_total_15 : decode cX9_total 15 = .ok (.istore_n 1, 1) := by decide +kernel
theorem dX9_total_16 : decode cX9_total 16 = .ok (.iinc 2 1, 3) := by decide +kernel
theorem dX9_total_19 : decode cX9_total 19 = .ok (.goto (-15), 3) := by decide +kernel
theorem dX9_total_22 : decode cX9_total 22 = .ok (.iload_n 1, 1) := by decide +kernel
theorem dX9_total_23 : decode cX9_total 23 = .ok (.ireturn, 1) := by decide +kernel
theorem dX9_places_0 : decode cX9_places 0 = .ok (.iconst 0, 1) := by decide +kernel
theorem dX9_places_1 : decode cX9_places 1 = .ok (.istore_n 3, 1) := by decide +kernel
theorem dX9_places_2 : decode cX9_places 2 = .ok (.iconst 0, 1) := by decide +kernel
theorem dX9_places_3 : decode cX9_places 3 = .ok (.istore 4, 2) := by decide +kernel
theorem dX9_places_5 : decode cX9_places 5 = .ok (.iload 4, 2) := by decide +kernel
theorem dX9_places_7 : decode cX9_places 7 = .ok (.iload_n 1, 1) := by decide +kernel
theorem dX9_places_8 : decode cX9_places 8 = .ok (.if_icmp .ge 31, 3) := by decide +kernel
theorem dX9_places_11 : decode cX9_places 11 = .ok (.iload 4, 2) := by decide +kernel
theorem dX9_places_13 : decode cX9_places 13 = .ok (.aload_n 0, 1) := by decide +kernel
theorem dX9_places_14 : decode cX9_places 14 = .ok (.arraylength, 1) := by decide +kernel
theorem dX9_places_15 : decode cX9_places 15 = .ok (.if_icmp .ge 24, 3) := by decide +kernel
theorem dX9_places_18 : decode cX9_places 18 = .ok (.aload_n 0, 1) := by decide +kernel
theorem dX9_places_19 : decode cX9_places 19 = .ok (.iload 4, 2) := by decide +kernel
theorem dX9_places_21 : decode cX9_places 21 = .ok (.iaload, 1) := by decide +kernel
theorem dX9_places_22 : decode cX9_places 22 = .ok (.iload_n 2, 1) := by decide +kernel
theorem dX9_places_23 : decode cX9_places 23 = .ok (.if_icmp .ne 10, 3) := by decide +kernel
theorem dX9_places_26 : decode cX9_places 26 = .ok (.iload_n 3, 1) := by decide +kernel
theorem dX9_places_27 : decode cX9_places 27 = .ok (.iconst 1, 1) := by decide +kernel
theorem dX9_places_28 : decode cX9_places 28 = .ok (.iload 4, 2) := by decide +kernel
theorem dX9_places_30 : decode cX9_places 30 = .ok (.ishl, 1) := by decide +kernel
theorem dX9_places_31 : decode cX9_places 31 = .ok (.ior, 1) := by decide +kernel
theorem dX9_places_32 : decode cX9_places 32 = .ok (.istore_n 3, 1) := by decide +kernel
theorem dX9_places_33 : decode cX9_places 33 = .ok (.iinc 4 1, 3) := by decide +kernel
theorem dX9_places_36 : decode cX9_places 36 = .ok (.goto (-31), 3) := by decide +kernel
theorem dX9_places_39 : decode cX9_places 39 = .ok (.iload_n 3, 1) := by decide +kernel
theorem dX9_places_40 : decode cX9_places 40 = .ok (.ireturn, 1) := by decide +kernel
theorem dX9_firstMost_0 : decode cX9_firstMost 0 = .ok (.iconst (-1), 1) := by decide +kernel
theorem dX9_firstMost_1 : decode cX9_firstMost 1 = .ok (.istore_n 2, 1) := by decide +kernel
theorem dX9_firstMost_2 : decode cX9_firstMost 2 = .ok (.iconst 0, 1) := by decide +kernel
theorem dX9_firstMost_3 : decode cX9_firstMost 3 = .ok (.istore_n 3, 1) := by decide +kernel
theorem dX9_firstMost_4 : decode cX9_firstMost 4 = .ok (.iload_n 3, 1) := by decide +kernel
theorem dX9_firstMost_5 : decode cX9_firstMost 5 = .ok (.iload_n 1, 1) := by decide +kernel
theorem dX9_firstMost_6 : decode cX9_firstMost 6 = .ok (.if_icmp .ge 31, 3) := by decide +kernel
theorem dX9_firstMost_9 : decode cX9_firstMost 9 = .ok (.iload_n 3, 1) := by decide +kernel
theorem dX9_firstMost_10 : decode cX9_firstMost 10 = .ok (.aload_n 0, 1) := by decide +kernel
theorem dX9_firstMost_11 : decode cX9_firstMost 11 = .ok (.arraylength, 1) := by decide +kernel
theorem dX9_firstMost_12 : decode cX9_firstMost 12 = .ok (.if_icmp .ge 25, 3) := by decide +kernel
theorem dX9_firstMost_15 : decode cX9_firstMost 15 = .ok (.iload_n 2, 1) := by decide +kernel
theorem dX9_firstMost_16 : decode cX9_firstMost 16 = .ok (.iconst (-1), 1) := by decide +kernel
theorem dX9_firstMost_17 : decode cX9_firstMost 17 = .ok (.if_icmp .eq 12, 3) := by decide +kernel
theorem dX9_firstMost_20 : decode cX9_firstMost 20 = .ok (.aload_n 0, 1) := by decide +kernel
theorem dX9_firstMost_21 : decode cX9_firstMost 21 = .ok (.iload_n 3, 1) := by decide +kernel
theorem dX9_firstMost_22 : decode cX9_firstMost 22 = .ok (.iaload, 1) := by decide +kernel
theorem dX9_firstMost_23 : decode cX9_firstMost 23 = .ok (.aload_n 0, 1) := by decide +kernel
theorem dX9_firstMost_24 : decode cX9_firstMost 24 = .ok (.iload_n 2, 1) := by decide +kernel
theorem dX9_firstMost_25 : decode cX9_firstMost 25 = .ok (.iaload, 1) := by decide +kernel
theorem dX9_firstMost_26 : decode cX9_firstMost 26 = .ok (.if_icmp .le 5, 3) := by decide +kernel
theorem dX9_firstMost_29 : decode cX9_firstMost 29 = .ok (.iload_n 3, 1) := by decide +kernel
theorem dX9_firstMost_30 : decode cX9_firstMost 30 = .ok (.istore_n 2, 1) := by decide +kernel
theorem dX9_firstMost_31 : decode cX9_firstMost 31 = .ok (.iinc 3 1, 3) := by decide +kernel
theorem dX9_firstMost_34 : decode cX9_firstMost 34 = .ok (.goto (-30), 3) := by decide +kernel
theorem dX9_firstMost_37 : decode cX9_firstMost 37 = .ok (.iload_n 2, 1) := by decide +kernel
theorem dX9_firstMost_38 : decode cX9_firstMost 38 = .ok (.ireturn, 1) := by decide +kernel
theorem dX9_wordedAnew_0 : decode cX9_wordedAnew 0 = .ok (.iconst 0, 1) := by decide +kernel
theorem dX9_wordedAnew_1 : decode cX9_wordedAnew 1 = .ok (.istore_n 1, 1) := by decide +kernel
theorem dX9_wordedAnew_2 : decode cX9_wordedAnew 2 = .ok (.iconst 0, 1) := by decide +kernel
theorem dX9_wordedAnew_3 : decode cX9_wordedAnew 3 = .ok (.istore_n 2, 1) := by decide +kernel
theorem dX9_wordedAnew_4 : decode cX9_wordedAnew 4 = .ok (.iload_n 2, 1) := by decide +kernel
theorem dX9_wordedAnew_5 : decode cX9_wordedAnew 5 = .ok (.aload_n 0, 1) := by decide +kernel
theorem dX9_wordedAnew_6 : decode cX9_wordedAnew 6 = .ok (.getfield 19, 3) := by decide +kernel
theorem dX9_wordedAnew_9 : decode cX9_wordedAnew 9 = .ok (.getfield 106, 3) := by decide +kernel
theorem dX9_wordedAnew_12 : decode cX9_wordedAnew 12 = .ok (.getfield 147, 3) := by decide +kernel
theorem dX9_wordedAnew_15 : decode cX9_wordedAnew 15 = .ok (.if_icmp .ge 42, 3) := by decide +kernel
theorem dX9_wordedAnew_18 : decode cX9_wordedAnew 18 = .ok (.aload_n 0, 1) := by decide +kernel
theorem dX9_wordedAnew_19 : decode cX9_wordedAnew 19 = .ok (.getfield 33, 3) := by decide +kernel
theorem dX9_wordedAnew_22 : decode cX9_wordedAnew 22 = .ok (.getfield 128, 3) := by decide +kernel
theorem dX9_wordedAnew_25 : decode cX9_wordedAnew 25 = .ok (.getfield 227, 3) := by decide +kernel
theorem dX9_wordedAnew_28 : decode cX9_wordedAnew 28 = .ok (.iload_n 2, 1) := by decide +kernel
theorem dX9_wordedAnew_29 : decode cX9_wordedAnew 29 = .ok (.iaload, 1) := by decide +kernel
theorem dX9_wordedAnew_30 : decode cX9_wordedAnew 30 = .ok (.aload_n 0, 1) := by decide +kernel
theorem dX9_wordedAnew_31 : decode cX9_wordedAnew 31 = .ok (.getfield 19, 3) := by decide +kernel
theorem dX9_wordedAnew_34 : decode cX9_wordedAnew 34 = .ok (.getfield 106, 3) := by decide +kernel
theorem dX9_wordedAnew_37 : decode cX9_wordedAnew 37 = .ok (.getfield 230, 3) := by decide +kernel
theorem dX9_wordedAnew_40 : decode cX9_wordedAnew 40 = .ok (.iload_n 2, 1) := by decide +kernel
theorem dX9_wordedAnew_41 : decode cX9_wordedAnew 41 = .ok (.iaload, 1) := by decide +kernel
theorem dX9_wordedAnew_42 : decode cX9_wordedAnew 42 = .ok (.if_icmp .eq 9, 3) := by decide +kernel
theorem dX9_wordedAnew_45 : decode cX9_wordedAnew 45 = .ok (.iload_n 1, 1) := by decide +kernel
theorem dX9_wordedAnew_46 : decode cX9_wordedAnew 46 = .ok (.iconst 1, 1) := by decide +kernel
theorem dX9_wordedAnew_47 : decode cX9_wordedAnew 47 = .ok (.iload_n 2, 1) := by decide +kernel
theorem dX9_wordedAnew_48 : decode cX9_wordedAnew 48 = .ok (.ishl, 1) := by decide +kernel
theorem dX9_wordedAnew_49 : decode cX9_wordedAnew 49 = .ok (.ior, 1) := by decide +kernel
theorem dX9_wordedAnew_50 : decode cX9_wordedAnew 50 = .ok (.istore_n 1, 1) := by decide +kernel
theorem dX9_wordedAnew_51 : decode cX9_wordedAnew 51 = .ok (.iinc 2 1, 3) := by decide +kernel
theorem dX9_wordedAnew_54 : decode cX9_wordedAnew 54 = .ok (.goto (-50), 3) := by decide +kernel
theorem dX9_wordedAnew_57 : decode cX9_wordedAnew 57 = .ok (.iload_n 1, 1) := by decide +kernel
theorem dX9_wordedAnew_58 : decode cX9_wordedAnew 58 = .ok (.ireturn, 1) := by decide +kernel
theorem dX9_sungByNow_0 : decode cX9_sungByNow 0 = .ok (.aload_n 0, 1) := by decide +kernel
theorem dX9_sungByNow_1 : decode cX9_sungByNow 1 = .ok (.getfield 44, 3) := by decide +kernel
theorem dX9_sungByNow_4 : decode cX9_sungByNow 4 = .ok (.aload_n 0, 1) := by decide +kernel
theorem dX9_sungByNow_5 : decode cX9_sungByNow 5 = .ok (.getfield 33, 3) := by decide +kernel
theorem dX9_sungByNow_8 : decode cX9_sungByNow 8 = .ok (.getfield 128, 3) := by decide +kernel
theorem dX9_sungByNow_11 : decode cX9_sungByNow 11 = .ok (.invokevirtual 256, 3) := by decide +kernel
theorem dX9_sungByNow_14 : decode cX9_sungByNow 14 = .ok (.aload_n 0, 1) := by decide +kernel
theorem dX9_sungByNow_15 : decode cX9_sungByNow 15 = .ok (.getfield 19, 3) := by decide +kernel
theorem dX9_sungByNow_18 : decode cX9_sungByNow 18 = .ok (.aload_n 0, 1) := by decide +kernel
theorem dX9_sungByNow_19 : decode cX9_sungByNow 19 = .ok (.getfield 44, 3) := by decide +kernel
theorem dX9_sungByNow_22 : decode cX9_sungByNow 22 = .ok (.iload_n 1, 1) := by decide +kernel
theorem dX9_sungByNow_23 : decode cX9_sungByNow 23 = .ok (.invokevirtual 383, 3) := by decide +kernel
theorem dX9_sungByNow_26 : decode cX9_sungByNow 26 = .ok (.ireturn, 1) := by decide +kernel
theorem dX9_outOfBreath_0 : decode cX9_outOfBreath 0 = .ok (.aload_n 1, 1) := by decide +kernel
theorem dX9_outOfBreath_1 : decode cX9_outOfBreath 1 = .ok (.getfield 198, 3) := by decide +kernel
theorem dX9_outOfBreath_4 : decode cX9_outOfBreath 4 = .ok (.aload_n 0, 1) := by decide +kernel
theorem dX9_outOfBreath_5 : decode cX9_outOfBreath 5 = .ok (.getfield 19, 3) := by decide +kernel
theorem dX9_outOfBreath_8 : decode cX9_outOfBreath 8 = .ok (.getfield 106, 3) := by decide +kernel
theorem dX9_outOfBreath_11 : decode cX9_outOfBreath 11 = .ok (.getfield 112, 3) := by decide +kernel
theorem dX9_outOfBreath_14 : decode cX9_outOfBreath 14 = .ok (.iconst 0, 1) := by decide +kernel
theorem dX9_outOfBreath_15 : decode cX9_outOfBreath 15 = .ok (.invokestatic 332, 3) := by decide +kernel
theorem dX9_outOfBreath_18 : decode cX9_outOfBreath 18 = .ok (.ireturn, 1) := by decide +kernel
theorem dX9_notesSungBy_0 : decode cX9_notesSungBy 0 = .ok (.iconst 0, 1) := by decide +kernel
theorem dX9_notesSungBy_1 : decode cX9_notesSungBy 1 = .ok (.istore_n 2, 1) := by decide +kernel
theorem dX9_notesSungBy_2 : decode cX9_notesSungBy 2 = .ok (.iconst 0, 1) := by decide +kernel
theorem dX9_notesSungBy_3 : decode cX9_notesSungBy 3 = .ok (.istore_n 3, 1) := by decide +kernel
theorem dX9_notesSungBy_4 : decode cX9_notesSungBy 4 = .ok (.iload_n 3, 1) := by decide +kernel
theorem dX9_notesSungBy_5 : decode cX9_notesSungBy 5 = .ok (.aload_n 0, 1) := by decide +kernel
theorem dX9_notesSungBy_6 : decode cX9_notesSungBy 6 = .ok (.getfield 19, 3) := by decide +kernel
theorem dX9_notesSungBy_9 : decode cX9_notesSungBy 9 = .ok (.getfield 106, 3) := by decide +kernel
theorem dX9_notesSungBy_12 : decode cX9_notesSungBy 12 = .ok (.getfield 147, 3) := by decide +kernel
theorem dX9_notesSungBy_15 : decode cX9_notesSungBy 15 = .ok (.if_icmp .ge 31, 3) := by decide +kernel
theorem dX9_notesSungBy_18 : decode cX9_notesSungBy 18 = .ok (.aload_n 0, 1) := by decide +kernel
theorem dX9_notesSungBy_19 : decode cX9_notesSungBy 19 = .ok (.getfield 19, 3) := by decide +kernel
theorem dX9_notesSungBy_22 : decode cX9_notesSungBy 22 = .ok (.aload_n 0, 1) := by decide +kernel
theorem dX9_notesSungBy_23 : decode cX9_notesSungBy 23 = .ok (.getfield 44, 3) := by decide +kernel
theorem dX9_notesSungBy_26 : decode cX9_notesSungBy 26 = .ok (.iload_n 3, 1) := by decide +kernel
theorem dX9_notesSungBy_27 : decode cX9_notesSungBy 27 = .ok (.invokevirtual 383, 3) := by decide +kernel
theorem dX9_notesSungBy_30 : decode cX9_notesSungBy 30 = .ok (.iload_n 1, 1) := by decide +kernel
theorem dX9_notesSungBy_31 : decode cX9_notesSungBy 31 = .ok (.if_icmp .ne 9, 3) := by decide +kernel
theorem dX9_notesSungBy_34 : decode cX9_notesSungBy 34 = .ok (.iload_n 2, 1) := by decide +kernel
theorem dX9_notesSungBy_35 : decode cX9_notesSungBy 35 = .ok (.iconst 1, 1) := by decide +kernel
theorem dX9_notesSungBy_36 : decode cX9_notesSungBy 36 = .ok (.iload_n 3, 1) := by decide +kernel
theorem dX9_notesSungBy_37 : decode cX9_notesSungBy 37 = .ok (.ishl, 1) := by decide +kernel
theorem dX9_notesSungBy_38 : decode cX9_notesSungBy 38 = .ok (.ior, 1) := by decide +kernel
theorem dX9_notesSungBy_39 : decode cX9_notesSungBy 39 = .ok (.istore_n 2, 1) := by decide +kernel
theorem dX9_notesSungBy_40 : decode cX9_notesSungBy 40 = .ok (.iinc 3 1, 3) := by decide +kernel
theorem dX9_notesSungBy_43 : decode cX9_notesSungBy 43 = .ok (.goto (-39), 3) := by decide +kernel
theorem dX9_notesSungBy_46 : decode cX9_notesSungBy 46 = .ok (.iload_n 2, 1) := by decide +kernel
theorem dX9_notesSungBy_47 : decode cX9_notesSungBy 47 = .ok (.ireturn, 1) := by decide +kernel
theorem dX9_payOf_0 : decode cX9_payOf 0 = .ok (.iconst 0, 1) := by decide +kernel
theorem dX9_payOf_1 : decode cX9_payOf 1 = .ok (.istore_n 2, 1) := by decide +kernel
theorem dX9_payOf_2 : decode cX9_payOf 2 = .ok (.iconst 0, 1) := by decide +kernel
theorem dX9_payOf_3 : decode cX9_payOf 3 = .ok (.istore_n 3, 1) := by decide +kernel
theorem dX9_payOf_4 : decode cX9_payOf 4 = .ok (.iload_n 3, 1) := by decide +kernel
theorem dX9_payOf_5 : decode cX9_payOf 5 = .ok (.aload_n 0, 1) := by decide +kernel
theorem dX9_payOf_6 : decode cX9_payOf 6 = .ok (.getfield 19, 3) := by decide +kernel
theorem dX9_payOf_9 : decode cX9_payOf 9 = .ok (.getfield 106, 3) := by decide +kernel
theorem dX9_payOf_12 : decode cX9_payOf 12 = .ok (.getfield 112, 3) := by decide +kernel
theorem dX9_payOf_15 : decode cX9_payOf 15 = .ok (.if_icmp .ge 30, 3) := by decide +kernel
theorem dX9_payOf_18 : decode cX9_payOf 18 = .ok (.iload_n 2, 1) := by decide +kernel
theorem dX9_payOf_19 : decode cX9_payOf 19 = .ok (.iload_n 1, 1) := by decide +kernel
theorem dX9_payOf_20 : decode cX9_payOf 20 = .ok (.iload_n 3, 1) := by decide +kernel
theorem dX9_payOf_21 : decode cX9_payOf 21 = .ok (.ishr, 1) := by decide +kernel
theorem dX9_payOf_22 : decode cX9_payOf 22 = .ok (.iconst 1, 1) := by decide +kernel
theorem dX9_payOf_23 : decode cX9_payOf 23 = .ok (.iand, 1) := by decide +kernel
theorem dX9_payOf_24 : decode cX9_payOf 24 = .ok (.aload_n 0, 1) := by decide +kernel
theorem dX9_payOf_25 : decode cX9_payOf 25 = .ok (.getfield 19, 3) := by decide +kernel
theorem dX9_payOf_28 : decode cX9_payOf 28 = .ok (.getfield 106, 3) := by decide +kernel
theorem dX9_payOf_31 : decode cX9_payOf 31 = .ok (.getfield 215, 3) := by decide +kernel
theorem dX9_payOf_34 : decode cX9_payOf 34 = .ok (.iload_n 3, 1) := by decide +kernel
theorem dX9_payOf_35 : decode cX9_payOf 35 = .ok (.iaload, 1) := by decide +kernel
theorem dX9_payOf_36 : decode cX9_payOf 36 = .ok (.imul, 1) := by decide +kernel
theorem dX9_payOf_37 : decode cX9_payOf 37 = .ok (.iadd, 1) := by decide +kernel
theorem dX9_payOf_38 : decode cX9_payOf 38 = .ok (.istore_n 2, 1) := by decide +kernel
theorem dX9_payOf_39 : decode cX9_payOf 39 = .ok (.iinc 3 1, 3) := by decide +kernel
theorem dX9_payOf_42 : decode cX9_payOf 42 = .ok (.goto (-38), 3) := by decide +kernel
theorem dX9_payOf_45 : decode cX9_payOf 45 = .ok (.iload_n 2, 1) := by decide +kernel
theorem dX9_payOf_46 : decode cX9_payOf 46 = .ok (.ireturn, 1) := by decide +kernel
theorem dX9_isCheaper_0 : decode cX9_isCheaper 0 = .ok (.iload_n 2, 1) := by decide +kernel
theorem dX9_isCheaper_1 : decode cX9_isCheaper 1 = .ok (.iconst (-1), 1) := by decide +kernel
theorem dX9_isCheaper_2 : decode cX9_isCheaper 2 = .ok (.if_icmp .ne 5, 3) := by decide +kernel
theorem dX9_isCheaper_5 : decode cX9_isCheaper 5 = .ok (.iconst 1, 1) := by decide +kernel
theorem dX9_isCheaper_6 : decode cX9_isCheaper 6 = .ok (.ireturn, 1) := by decide +kernel
theorem dX9_isCheaper_7 : decode cX9_isCheaper 7 = .ok (.iload_n 2, 1) := by decide +kernel
theorem dX9_isCheaper_8 : decode cX9_isCheaper 8 = .ok (.invokestatic 156, 3) := by decide +kernel
theorem dX9_isCheaper_11 : decode cX9_isCheaper 11 = .ok (.iload_n 1, 1) := by decide +kernel
theorem dX9_isCheaper_12 : decode cX9_isCheaper 12 = .ok (.invokestatic 156, 3) := by decide +kernel
theorem dX9_isCheaper_15 : decode cX9_isCheaper 15 = .ok (.isub, 1) := by decide +kernel
theorem dX9_isCheaper_16 : decode cX9_isCheaper 16 = .ok (.istore_n 3, 1) := by decide +kernel
theorem dX9_isCheaper_17 : decode cX9_isCheaper 17 = .ok (.iload_n 3, 1) := by decide +kernel
theorem dX9_isCheaper_18 : decode cX9_isCheaper 18 = .ok (.ifCond .gt 20, 3) := by decide +kernel
theorem dX9_isCheaper_21 : decode cX9_isCheaper 21 = .ok (.iload_n 3, 1) := by decide +kernel
theorem dX9_isCheaper_22 : decode cX9_isCheaper 22 = .ok (.ifCond .ne 20, 3) := by decide +kernel
theorem dX9_isCheaper_25 : decode cX9_isCheaper 25 = .ok (.aload_n 0, 1) := by decide +kernel
theorem dX9_isCheaper_26 : decode cX9_isCheaper 26 = .ok (.iload_n 1, 1) := by decide +kernel
theorem dX9_isCheaper_27 : decode cX9_isCheaper 27 = .ok (.invokevirtual 387, 3) := by decide +kernel
theorem dX9_isCheaper_30 : decode cX9_isCheaper 30 = .ok (.aload_n 0, 1) := by decide +kernel
theorem dX9_isCheaper_31 : decode cX9_isCheaper 31 = .ok (.iload_n 2, 1) := by decide +kernel
theorem dX9_isCheaper_32 : decode cX9_isCheaper 32 = .ok (.invokevirtual 387, 3) := by decide +kernel
theorem dX9_isCheaper_35 : decode cX9_isCheaper 35 = .ok (.if_icmp .ge 7, 3) := by decide +kernel
theorem dX9_isCheaper_38 : decode cX9_isCheaper 38 = .ok (.iconst 1, 1) := by decide +kernel
theorem dX9_isCheaper_39 : decode cX9_isCheaper 39 = .ok (.goto 4, 3) := by decide +kernel
theorem dX9_isCheaper_42 : decode cX9_isCheaper 42 = .ok (.iconst 0, 1) := by decide +kernel
theorem dX9_isCheaper_43 : decode cX9_isCheaper 43 = .ok (.ireturn, 1) := by decide +kernel
theorem dX9_canCast_0 : decode cX9_canCast 0 = .ok (.aload_n 0, 1) := by decide +kernel
theorem dX9_canCast_1 : decode cX9_canCast 1 = .ok (.getfield 44, 3) := by decide +kernel
theorem dX9_canCast_4 : decode cX9_canCast 4 = .ok (.aload_n 0, 1) := by decide +kernel
theorem dX9_canCast_5 : decode cX9_canCast 5 = .ok (.getfield 33, 3) := by decide +kernel
theorem dX9_canCast_8 : decode cX9_canCast 8 = .ok (.getfield 128, 3) := by decide +kernel
theorem dX9_canCast_11 : decode cX9_canCast 11 = .ok (.invokevirtual 256, 3) := by decide +kernel
theorem dX9_canCast_14 : decode cX9_canCast 14 = .ok (.aload_n 0, 1) := by decide +kernel
theorem dX9_canCast_15 : decode cX9_canCast 15 = .ok (.getfield 44, 3) := by decide +kernel
theorem dX9_canCast_18 : decode cX9_canCast 18 = .ok (.aload_n 0, 1) := by decide +kernel
theorem dX9_canCast_19 : decode cX9_canCast 19 = .ok (.invokevirtual 339, 3) := by decide +kernel
theorem dX9_canCast_22 : decode cX9_canCast 22 = .ok (.iload_n 1, 1) := by decide +kernel
theorem dX9_canCast_23 : decode cX9_canCast 23 = .ok (.iconst (-1), 1) := by decide +kernel
theorem dX9_canCast_24 : decode cX9_canCast 24 = .ok (.ixor, 1) := by decide +kernel
theorem dX9_canCast_25 : decode cX9_canCast 25 = .ok (.iand, 1) := by decide +kernel
theorem dX9_canCast_26 : decode cX9_canCast 26 = .ok (.putfield 182, 3) := by decide +kernel
theorem dX9_canCast_29 : decode cX9_canCast 29 = .ok (.aload_n 0, 1) := by decide +kernel
theorem dX9_canCast_30 : decode cX9_canCast 30 = .ok (.getfield 19, 3) := by decide +kernel
theorem dX9_canCast_33 : decode cX9_canCast 33 = .ok (.aload_n 0, 1) := by decide +kernel
theorem dX9_canCast_34 : decode cX9_canCast 34 = .ok (.getfield 44, 3) := by decide +kernel
theorem dX9_canCast_37 : decode cX9_canCast 37 = .ok (.invokevirtual 390, 3) := by decide +kernel
theorem dX9_canCast_40 : decode cX9_canCast 40 = .ok (.iconst 0, 1) := by decide +kernel
theorem dX9_canCast_41 : decode cX9_canCast 41 = .ok (.istore_n 2, 1) := by decide +kernel
theorem dX9_canCast_42 : decode cX9_canCast 42 = .ok (.iload_n 2, 1) := by decide +kernel
theorem dX9_canCast_43 : decode cX9_canCast 43 = .ok (.aload_n 0, 1) := by decide +kernel
theorem dX9_canCast_44 : decode cX9_canCast 44 = .ok (.getfield 19, 3) := by decide +kernel
theorem dX9_canCast_47 : decode cX9_canCast 47 = .ok (.getfield 106, 3) := by decide +kernel
theorem dX9_canCast_50 : decode cX9_canCast 50 = .ok (.getfield 147, 3) := by decide +kernel
theorem dX9_canCast_53 : decode cX9_canCast 53 = .ok (.if_icmp .ge 27, 3) := by decide +kernel
theorem dX9_canCast_56 : decode cX9_canCast 56 = .ok (.aload_n 0, 1) := by decide +kernel
theorem dX9_canCast_57 : decode cX9_canCast 57 = .ok (.getfield 19, 3) := by decide +kernel
theorem dX9_canCast_60 : decode cX9_canCast 60 = .ok (.aload_n 0, 1) := by decide +kernel
theorem dX9_canCast_61 : decode cX9_canCast 61 = .ok (.getfield 44, 3) := by decide +kernel
theorem dX9_canCast_64 : decode cX9_canCast 64 = .ok (.iload_n 2, 1) := by decide +kernel
theorem dX9_canCast_65 : decode cX9_canCast 65 = .ok (.invokevirtual 383, 3) := by decide +kernel
theorem dX9_canCast_68 : decode cX9_canCast 68 = .ok (.iconst (-1), 1) := by decide +kernel
theorem dX9_canCast_69 : decode cX9_canCast 69 = .ok (.if_icmp .ne 5, 3) := by decide +kernel
theorem dX9_canCast_72 : decode cX9_canCast 72 = .ok (.iconst 0, 1) := by decide +kernel
theorem dX9_canCast_73 : decode cX9_canCast 73 = .ok (.ireturn, 1) := by decide +kernel
theorem dX9_canCast_74 : decode cX9_canCast 74 = .ok (.iinc 2 1, 3) := by decide +kernel
theorem dX9_canCast_77 : decode cX9_canCast 77 = .ok (.goto (-35), 3) := by decide +kernel
theorem dX9_canCast_80 : decode cX9_canCast 80 = .ok (.iconst 1, 1) := by decide +kernel
theorem dX9_canCast_81 : decode cX9_canCast 81 = .ok (.ireturn, 1) := by decide +kernel
theorem dX9_handedOn_0 : decode cX9_handedOn 0 = .ok (.iload_n 1, 1) := by decide +kernel
theorem dX9_handedOn_1 : decode cX9_handedOn 1 = .ok (.iload_n 2, 1) := by decide +kernel
theorem dX9_handedOn_2 : decode cX9_handedOn 2 = .ok (.if_icmp .ne 5, 3) := by decide +kernel
theorem dX9_handedOn_5 : decode cX9_handedOn 5 = .ok (.iconst 0, 1) := by decide +kernel
theorem dX9_handedOn_6 : decode cX9_handedOn 6 = .ok (.ireturn, 1) := by decide +kernel
theorem dX9_handedOn_7 : decode cX9_handedOn 7 = .ok (.aload_n 0, 1) := by decide +kernel
theorem dX9_handedOn_8 : decode cX9_handedOn 8 = .ok (.getfield 33, 3) := by decide +kernel
theorem dX9_handedOn_11 : decode cX9_handedOn 11 = .ok (.getfield 128, 3) := by decide +kernel
theorem dX9_handedOn_14 : decode cX9_handedOn 14 = .ok (.getfield 227, 3) := by decide +kernel
theorem dX9_handedOn_17 : decode cX9_handedOn 17 = .ok (.astore_n 3, 1) := by decide +kernel
theorem dX9_handedOn_18 : decode cX9_handedOn 18 = .ok (.iconst 0, 1) := by decide +kernel
theorem dX9_handedOn_19 : decode cX9_handedOn 19 = .ok (.istore 4, 2) := by decide +kernel
theorem dX9_handedOn_21 : decode cX9_handedOn 21 = .ok (.iconst 1, 1) := by decide +kernel
theorem dX9_handedOn_22 : decode cX9_handedOn 22 = .ok (.istore 5, 2) := by decide +kernel
theorem dX9_handedOn_24 : decode cX9_handedOn 24 = .ok (.iload 5, 2) := by decide +kernel
theorem dX9_handedOn_26 : decode cX9_handedOn 26 = .ok (.aload_n 0, 1) := by decide +kernel
theorem dX9_handedOn_27 : decode cX9_handedOn 27 = .ok (.getfield 19, 3) := by decide +kernel
theorem dX9_handedOn_30 : decode cX9_handedOn 30 = .ok (.getfield 106, 3) := by decide +kernel
theorem dX9_handedOn_33 : decode cX9_handedOn 33 = .ok (.getfield 147, 3) := by decide +kernel
theorem dX9_handedOn_36 : decode cX9_handedOn 36 = .ok (.if_icmp .ge 79, 3) := by decide +kernel
theorem dX9_handedOn_39 : decode cX9_handedOn 39 = .ok (.aload_n 3, 1) := by decide +kernel
theorem dX9_handedOn_40 : decode cX9_handedOn 40 = .ok (.iload 5, 2) := by decide +kernel
theorem dX9_handedOn_42 : decode cX9_handedOn 42 = .ok (.iconst 1, 1) := by decide +kernel
theorem dX9_handedOn_43 : decode cX9_handedOn 43 = .ok (.isub, 1) := by decide +kernel
theorem dX9_handedOn_44 : decode cX9_handedOn 44 = .ok (.iaload, 1) := by decide +kernel
theorem dX9_handedOn_45 : decode cX9_handedOn 45 = .ok (.iload_n 1, 1) := by decide +kernel
theorem dX9_handedOn_46 : decode cX9_handedOn 46 = .ok (.if_icmp .ne 15, 3) := by decide +kernel
theorem dX9_handedOn_49 : decode cX9_handedOn 49 = .ok (.aload_n 3, 1) := by decide +kernel
theorem dX9_handedOn_50 : decode cX9_handedOn 50 = .ok (.iload 5, 2) := by decide +kernel
theorem dX9_handedOn_52 : decode cX9_handedOn 52 = .ok (.iaload, 1) := by decide +kernel
theorem dX9_handedOn_53 : decode cX9_handedOn 53 = .ok (.iload_n 2, 1) := by decide +kernel
theorem dX9_handedOn_54 : decode cX9_handedOn 54 = .ok (.if_icmp .ne 7, 3) := by decide +kernel
theorem dX9_handedOn_57 : decode cX9_handedOn 57 = .ok (.iconst 1, 1) := by decide +kernel
theorem dX9_handedOn_58 : decode cX9_handedOn 58 = .ok (.goto 4, 3) := by decide +kernel
theorem dX9_handedOn_61 : decode cX9_handedOn 61 = .ok (.iconst 0, 1) := by decide +kernel
theorem dX9_handedOn_62 : decode cX9_handedOn 62 = .ok (.istore 6, 2) := by decide +kernel
theorem dX9_handedOn_64 : decode cX9_handedOn 64 = .ok (.aload_n 3, 1) := by decide +kernel
theorem dX9_handedOn_65 : decode cX9_handedOn 65 = .ok (.iload 5, 2) := by decide +kernel
theorem dX9_handedOn_67 : decode cX9_handedOn 67 = .ok (.iconst 1, 1) := by decide +kernel
theorem dX9_handedOn_68 : decode cX9_handedOn 68 = .ok (.isub, 1) := by decide +kernel
theorem dX9_handedOn_69 : decode cX9_handedOn 69 = .ok (.iaload, 1) := by decide +kernel
theorem dX9_handedOn_70 : decode cX9_handedOn 70 = .ok (.iload_n 2, 1) := by decide +kernel
theorem dX9_handedOn_71 : decode cX9_handedOn 71 = .ok (.if_icmp .ne 15, 3) := by decide +kernel
theorem dX9_handedOn_74 : decode cX9_handedOn 74 = .ok (.aload_n 3, 1) := by decide +kernel
theorem dX9_handedOn_75 : decode cX9_handedOn 75 = .ok (.iload 5, 2) := by decide +kernel
theorem dX9_handedOn_77 : decode cX9_handedOn 77 = .ok (.iaload, 1) := by decide +kernel
theorem dX9_handedOn_78 : decode cX9_handedOn 78 = .ok (.iload_n 1, 1) := by decide +kernel
theorem dX9_handedOn_79 : decode cX9_handedOn 79 = .ok (.if_icmp .ne 7, 3) := by decide +kernel
theorem dX9_handedOn_82 : decode cX9_handedOn 82 = .ok (.iconst 1, 1) := by decide +kernel
theorem dX9_handedOn_83 : decode cX9_handedOn 83 = .ok (.goto 4, 3) := by decide +kernel
theorem dX9_handedOn_86 : decode cX9_handedOn 86 = .ok (.iconst 0, 1) := by decide +kernel
theorem dX9_handedOn_87 : decode cX9_handedOn 87 = .ok (.istore 7, 2) := by decide +kernel
theorem dX9_handedOn_89 : decode cX9_handedOn 89 = .ok (.iload 4, 2) := by decide +kernel
theorem dX9_handedOn_91 : decode cX9_handedOn 91 = .ok (.iload 6, 2) := by decide +kernel
theorem dX9_handedOn_93 : decode cX9_handedOn 93 = .ok (.ifCond .ne 8, 3) := by decide +kernel
theorem dX9_handedOn_96 : decode cX9_handedOn 96 = .ok (.iload 7, 2) := by decide +kernel
theorem dX9_handedOn_98 : decode cX9_handedOn 98 = .ok (.ifCond .eq 7, 3) := by decide +kernel
theorem dX9_handedOn_101 : decode cX9_handedOn 101 = .ok (.iconst 1, 1) := by decide +kernel
theorem dX9_handedOn_102 : decode cX9_handedOn 102 = .ok (.goto 4, 3) := by decide +kernel
theorem dX9_handedOn_105 : decode cX9_handedOn 105 = .ok (.iconst 0, 1) := by decide +kernel
theorem dX9_handedOn_106 : decode cX9_handedOn 106 = .ok (.iadd, 1) := by decide +kernel
theorem dX9_handedOn_107 : decode cX9_handedOn 107 = .ok (.istore 4, 2) := by decide +kernel
theorem dX9_handedOn_109 : decode cX9_handedOn 109 = .ok (.iinc 5 1, 3) := by decide +kernel
theorem dX9_handedOn_112 : decode cX9_handedOn 112 = .ok (.goto (-88), 3) := by decide +kernel
theorem dX9_handedOn_115 : decode cX9_handedOn 115 = .ok (.iload 4, 2) := by decide +kernel
theorem dX9_handedOn_117 : decode cX9_handedOn 117 = .ok (.ireturn, 1) := by decide +kernel
theorem dX9_fillBench_0 : decode cX9_fillBench 0 = .ok (.aload_n 0, 1) := by decide +kernel
theorem dX9_fillBench_1 : decode cX9_fillBench 1 = .ok (.getfield 19, 3) := by decide +kernel
theorem dX9_fillBench_4 : decode cX9_fillBench 4 = .ok (.getfield 106, 3) := by decide +kernel
theorem dX9_fillBench_7 : decode cX9_fillBench 7 = .ok (.astore_n 1, 1) := by decide +kernel
theorem dX9_fillBench_8 : decode cX9_fillBench 8 = .ok (.aload_n 0, 1) := by decide +kernel
theorem dX9_fillBench_9 : decode cX9_fillBench 9 = .ok (.getfield 51, 3) := by decide +kernel
theorem dX9_fillBench_12 : decode cX9_fillBench 12 = .ok (.aload_n 1, 1) := by decide +kernel
theorem dX9_fillBench_13 : decode cX9_fillBench 13 = .ok (.getfield 112, 3) := by decide +kernel
theorem dX9_fillBench_16 : decode cX9_fillBench 16 = .ok (.putfield 393, 3) := by decide +kernel
theorem dX9_fillBench_19 : decode cX9_fillBench 19 = .ok (.iconst 0, 1) := by decide +kernel
theorem dX9_fillBench_20 : decode cX9_fillBench 20 = .ok (.istore_n 2, 1) := by decide +kernel
theorem dX9_fillBench_21 : decode cX9_fillBench 21 = .ok (.iload_n 2, 1) := by decide +kernel
theorem dX9_fillBench_22 : decode cX9_fillBench 22 = .ok (.aload_n 1, 1) := by decide +kernel
theorem dX9_fillBench_23 : decode cX9_fillBench 23 = .ok (.getfield 112, 3) := by decide +kernel
theorem dX9_fillBench_26 : decode cX9_fillBench 26 = .ok (.if_icmp .ge 55, 3) := by decide +kernel
theorem dX9_fillBench_29 : decode cX9_fillBench 29 = .ok (.iconst 0, 1) := by decide +kernel
theorem dX9_fillBench_30 : decode cX9_fillBench 30 = .ok (.istore_n 3, 1) := by decide +kernel
theorem dX9_fillBench_31 : decode cX9_fillBench 31 = .ok (.iload_n 3, 1) := by decide +kernel
theorem dX9_fillBench_32 : decode cX9_fillBench 32 = .ok (.aload_n 1, 1) := by decide +kernel
theorem dX9_fillBench_33 : decode cX9_fillBench 33 = .ok (.getfield 112, 3) := by decide +kernel
theorem dX9_fillBench_36 : decode cX9_fillBench 36 = .ok (.if_icmp .ge 39, 3) := by decide +kernel
theorem dX9_fillBench_39 : decode cX9_fillBench 39 = .ok (.aload_n 0, 1) := by decide +kernel
theorem dX9_fillBench_40 : decode cX9_fillBench 40 = .ok (.getfield 51, 3) := by decide +kernel
theorem dX9_fillBench_43 : decode cX9_fillBench 43 = .ok (.getfield 394, 3) := by decide +kernel
theorem dX9_fillBench_46 : decode cX9_fillBench 46 = .ok (.iload_n 2, 1) := by decide +kernel
theorem dX9_fillBench_47 : decode cX9_fillBench 47 = .ok (.bipush 7, 2) := by decide +kernel
theorem dX9_fillBench_49 : decode cX9_fillBench 49 = .ok (.imul, 1) := by decide +kernel
theorem dX9_fillBench_50 : decode cX9_fillBench 50 = .ok (.iload_n 3, 1) := by decide +kernel
theorem dX9_fillBench_51 : decode cX9_fillBench 51 = .ok (.iadd, 1) := by decide +kernel
theorem dX9_fillBench_52 : decode cX9_fillBench 52 = .ok (.aload_n 0, 1) := by decide +kernel
theorem dX9_fillBench_53 : decode cX9_fillBench 53 = .ok (.aload_n 1, 1) := by decide +kernel
theorem dX9_fillBench_54 : decode cX9_fillBench 54 = .ok (.getfield 212, 3) := by decide +kernel
theorem dX9_fillBench_57 : decode cX9_fillBench 57 = .ok (.iload_n 2, 1) := by decide +kernel
theorem dX9_fillBench_58 : decode cX9_fillBench 58 = .ok (.iaload, 1) := by decide +kernel
theorem dX9_fillBench_59 : decode cX9_fillBench 59 = .ok (.aload_n 1, 1) := by decide +kernel
theorem dX9_fillBench_60 : decode cX9_fillBench 60 = .ok (.getfield 212, 3) := by decide +kernel
theorem dX9_fillBench_63 : decode cX9_fillBench 63 = .ok (.iload_n 3, 1) := by decide +kernel
theorem dX9_fillBench_64 : decode cX9_fillBench 64 = .ok (.iaload, 1) := by decide +kernel
theorem dX9_fillBench_65 : decode cX9_fillBench 65 = .ok (.invokevirtual 274, 3) := by decide +kernel
theorem dX9_fillBench_68 : decode cX9_fillBench 68 = .ok (.iastore, 1) := by decide +kernel
theorem dX9_fillBench_69 : decode cX9_fillBench 69 = .ok (.iinc 3 1, 3) := by decide +kernel
theorem dX9_fillBench_72 : decode cX9_fillBench 72 = .ok (.goto (-41), 3) := by decide +kernel
theorem dX9_fillBench_75 : decode cX9_fillBench 75 = .ok (.iinc 2 1, 3) := by decide +kernel
theorem dX9_fillBench_78 : decode cX9_fillBench 78 = .ok (.goto (-57), 3) := by decide +kernel
theorem dX9_fillBench_81 : decode cX9_fillBench 81 = .ok (.aload_n 0, 1) := by decide +kernel
theorem dX9_fillBench_82 : decode cX9_fillBench 82 = .ok (.getfield 51, 3) := by decide +kernel
theorem dX9_fillBench_85 : decode cX9_fillBench 85 = .ok (.invokevirtual 397, 3) := by decide +kernel
theorem dX9_fillBench_88 : decode cX9_fillBench 88 = .ok (.return_, 1) := by decide +kernel
theorem dX9_waysToWord_0 : decode cX9_waysToWord 0 = .ok (.lconst 1, 1) := by decide +kernel
theorem dX9_waysToWord_1 : decode cX9_waysToWord 1 = .ok (.lstore_n 2, 1) := by decide +kernel
theorem dX9_waysToWord_2 : decode cX9_waysToWord 2 = .ok (.iconst 0, 1) := by decide +kernel
theorem dX9_waysToWord_3 : decode cX9_waysToWord 3 = .ok (.istore 4, 2) := by decide +kernel
theorem dX9_waysToWord_5 : decode cX9_waysToWord 5 = .ok (.iload 4, 2) := by decide +kernel
theorem dX9_waysToWord_7 : decode cX9_waysToWord 7 = .ok (.aload_n 0, 1) := by decide +kernel
theorem dX9_waysToWord_8 : decode cX9_waysToWord 8 = .ok (.getfield 19, 3) := by decide +kernel
theorem dX9_waysToWord_11 : decode cX9_waysToWord 11 = .ok (.getfield 106, 3) := by decide +kernel
theorem dX9_waysToWord_14 : decode cX9_waysToWord 14 = .ok (.getfield 147, 3) := by decide +kernel
theorem dX9_waysToWord_17 : decode cX9_waysToWord 17 = .ok (.if_icmp .ge 31, 3) := by decide +kernel
theorem dX9_waysToWord_20 : decode cX9_waysToWord 20 = .ok (.lload_n 2, 1) := by decide +kernel
theorem dX9_waysToWord_21 : decode cX9_waysToWord 21 = .ok (.aload_n 0, 1) := by decide +kernel
theorem dX9_waysToWord_22 : decode cX9_waysToWord 22 = .ok (.getfield 19, 3) := by decide +kernel
theorem dX9_waysToWord_25 : decode cX9_waysToWord 25 = .ok (.getfield 106, 3) := by decide +kernel
theorem dX9_waysToWord_28 : decode cX9_waysToWord 28 = .ok (.getfield 336, 3) := by decide +kernel
theorem dX9_waysToWord_31 : decode cX9_waysToWord 31 = .ok (.iload 4, 2) := by decide +kernel
theorem dX9_waysToWord_33 : decode cX9_waysToWord 33 = .ok (.iaload, 1) := by decide +kernel
theorem dX9_waysToWord_34 : decode cX9_waysToWord 34 = .ok (.iload_n 1, 1) := by decide +kernel
theorem dX9_waysToWord_35 : decode cX9_waysToWord 35 = .ok (.iand, 1) := by decide +kernel
theorem dX9_waysToWord_36 : decode cX9_waysToWord 36 = .ok (.invokestatic 156, 3) := by decide +kernel
theorem dX9_waysToWord_39 : decode cX9_waysToWord 39 = .ok (.i2l, 1) := by decide +kernel
theorem dX9_waysToWord_40 : decode cX9_waysToWord 40 = .ok (.lmul, 1) := by decide +kernel
theorem dX9_waysToWord_41 : decode cX9_waysToWord 41 = .ok (.lstore_n 2, 1) := by decide +kernel
theorem dX9_waysToWord_42 : decode cX9_waysToWord 42 = .ok (.iinc 4 1, 3) := by decide +kernel
theorem dX9_waysToWord_45 : decode cX9_waysToWord 45 = .ok (.goto (-40), 3) := by decide +kernel
theorem dX9_waysToWord_48 : decode cX9_waysToWord 48 = .ok (.lload_n 2, 1) := by decide +kernel
theorem dX9_waysToWord_49 : decode cX9_waysToWord 49 = .ok (.lreturn, 1) := by decide +kernel
theorem dX9_heardWithout_0 : decode cX9_heardWithout 0 = .ok (.aload_n 0, 1) := by decide +kernel
theorem dX9_heardWithout_1 : decode cX9_heardWithout 1 = .ok (.getfield 44, 3) := by decide +kernel
theorem dX9_heardWithout_4 : decode cX9_heardWithout 4 = .ok (.aload_n 0, 1) := by decide +kernel
theorem dX9_heardWithout_5 : decode cX9_heardWithout 5 = .ok (.getfield 33, 3) := by decide +kernel
theorem dX9_heardWithout_8 : decode cX9_heardWithout 8 = .ok (.getfield 128, 3) := by decide +kernel
theorem dX9_heardWithout_11 : decode cX9_heardWithout 11 = .ok (.invokevirtual 256, 3) := by decide +kernel
theorem dX9_heardWithout_14 : decode cX9_heardWithout 14 = .ok (.aload_n 0, 1) := by decide +kernel
theorem dX9_heardWithout_15 : decode cX9_heardWithout 15 = .ok (.getfield 44, 3) := by decide +kernel
theorem dX9_heardWithout_18 : decode cX9_heardWithout 18 = .ok (.iload_n 1, 1) := by decide +kernel
theorem dX9_heardWithout_19 : decode cX9_heardWithout 19 = .ok (.putfield 182, 3) := by decide +kernel
theorem dX9_heardWithout_22 : decode cX9_heardWithout 22 = .ok (.aload_n 0, 1) := by decide +kernel
theorem dX9_heardWithout_23 : decode cX9_heardWithout 23 = .ok (.getfield 19, 3) := by decide +kernel
theorem dX9_heardWithout_26 : decode cX9_heardWithout 26 = .ok (.aload_n 0, 1) := by decide +kernel
theorem dX9_heardWithout_27 : decode cX9_heardWithout 27 = .ok (.getfield 44, 3) := by decide +kernel
theorem dX9_heardWithout_30 : decode cX9_heardWithout 30 = .ok (.invokevirtual 260, 3) := by decide +kernel
theorem dX9_heardWithout_33 : decode cX9_heardWithout 33 = .ok (.ireturn, 1) := by decide +kernel
theorem dX9_tallyHeard_0 : decode cX9_tallyHeard 0 = .ok (.iconst 0, 1) := by decide +kernel
theorem dX9_tallyHeard_1 : decode cX9_tallyHeard 1 = .ok (.istore_n 1, 1) := by decide +kernel
theorem dX9_tallyHeard_2 : decode cX9_tallyHeard 2 = .ok (.iload_n 1, 1) := by decide +kernel
theorem dX9_tallyHeard_3 : decode cX9_tallyHeard 3 = .ok (.bipush 20, 2) := by decide +kernel
theorem dX9_tallyHeard_5 : decode cX9_tallyHeard 5 = .ok (.if_icmp .ge 16, 3) := by decide +kernel
theorem dX9_tallyHeard_8 : decode cX9_tallyHeard 8 = .ok (.aload_n 0, 1) := by decide +kernel
theorem dX9_tallyHeard_9 : decode cX9_tallyHeard 9 = .ok (.getfield 55, 3) := by decide +kernel
theorem dX9_tallyHeard_12 : decode cX9_tallyHeard 12 = .ok (.iload_n 1, 1) := by decide +kernel
theorem dX9_tallyHeard_13 : decode cX9_tallyHeard 13 = .ok (.iconst 0, 1) := by decide +kernel
theorem dX9_tallyHeard_14 : decode cX9_tallyHeard 14 = .ok (.iastore, 1) := by decide +kernel
theorem dX9_tallyHeard_15 : decode cX9_tallyHeard 15 = .ok (.iinc 1 1, 3) := by decide +kernel
theorem dX9_tallyHeard_18 : decode cX9_tallyHeard 18 = .ok (.goto (-16), 3) := by decide +kernel
theorem dX9_tallyHeard_21 : decode cX9_tallyHeard 21 = .ok (.iconst 0, 1) := by decide +kernel
theorem dX9_tallyHeard_22 : decode cX9_tallyHeard 22 = .ok (.istore_n 1, 1) := by decide +kernel
theorem dX9_tallyHeard_23 : decode cX9_tallyHeard 23 = .ok (.iconst 1, 1) := by decide +kernel
theorem dX9_tallyHeard_24 : decode cX9_tallyHeard 24 = .ok (.aload_n 0, 1) := by decide +kernel
theorem dX9_tallyHeard_25 : decode cX9_tallyHeard 25 = .ok (.getfield 19, 3) := by decide +kernel
theorem dX9_tallyHeard_28 : decode cX9_tallyHeard 28 = .ok (.getfield 106, 3) := by decide +kernel
theorem dX9_tallyHeard_31 : decode cX9_tallyHeard 31 = .ok (.getfield 112, 3) := by decide +kernel
theorem dX9_tallyHeard_34 : decode cX9_tallyHeard 34 = .ok (.ishl, 1) := by decide +kernel
theorem dX9_tallyHeard_35 : decode cX9_tallyHeard 35 = .ok (.istore_n 2, 1) := by decide +kernel
theorem dX9_tallyHeard_36 : decode cX9_tallyHeard 36 = .ok (.iconst 0, 1) := by decide +kernel
theorem dX9_tallyHeard_37 : decode cX9_tallyHeard 37 = .ok (.istore_n 3, 1) := by decide +kernel
theorem dX9_tallyHeard_38 : decode cX9_tallyHeard 38 = .ok (.iload_n 3, 1) := by decide +kernel
theorem dX9_tallyHeard_39 : decode cX9_tallyHeard 39 = .ok (.iload_n 2, 1) := by decide +kernel
theorem dX9_tallyHeard_40 : decode cX9_tallyHeard 40 = .ok (.if_icmp .ge 67, 3) := by decide +kernel
theorem dX9_tallyHeard_43 : decode cX9_tallyHeard 43 = .ok (.aload_n 0, 1) := by decide +kernel
theorem dX9_tallyHeard_44 : decode cX9_tallyHeard 44 = .ok (.iload_n 3, 1) := by decide +kernel
theorem dX9_tallyHeard_45 : decode cX9_tallyHeard 45 = .ok (.invokevirtual 291, 3) := by decide +kernel
theorem dX9_tallyHeard_48 : decode cX9_tallyHeard 48 = .ok (.istore 4, 2) := by decide +kernel
theorem dX9_tallyHeard_50 : decode cX9_tallyHeard 50 = .ok (.aload_n 0, 1) := by decide +kernel
theorem dX9_tallyHeard_51 : decode cX9_tallyHeard 51 = .ok (.getfield 76, 3) := by decide +kernel
theorem dX9_tallyHeard_54 : decode cX9_tallyHeard 54 = .ok (.iload 4, 2) := by decide +kernel
theorem dX9_tallyHeard_56 : decode cX9_tallyHeard 56 = .ok (.invokevirtual 294, 3) := by decide +kernel
theorem dX9_tallyHeard_59 : decode cX9_tallyHeard 59 = .ok (.ifCond .ne 6, 3) := by decide +kernel
theorem dX9_tallyHeard_62 : decode cX9_tallyHeard 62 = .ok (.goto 39, 3) := by decide +kernel
theorem dX9_tallyHeard_65 : decode cX9_tallyHeard 65 = .ok (.iinc 1 1, 3) := by decide +kernel
theorem dX9_tallyHeard_68 : decode cX9_tallyHeard 68 = .ok (.iconst 0, 1) := by decide +kernel
theorem dX9_tallyHeard_69 : decode cX9_tallyHeard 69 = .ok (.istore 5, 2) := by decide +kernel
theorem dX9_tallyHeard_71 : decode cX9_tallyHeard 71 = .ok (.iload 5, 2) := by decide +kernel
theorem dX9_tallyHeard_73 : decode cX9_tallyHeard 73 = .ok (.bipush 20, 2) := by decide +kernel
theorem dX9_tallyHeard_75 : decode cX9_tallyHeard 75 = .ok (.if_icmp .ge 26, 3) := by decide +kernel
theorem dX9_tallyHeard_78 : decode cX9_tallyHeard 78 = .ok (.aload_n 0, 1) := by decide +kernel
theorem dX9_tallyHeard_79 : decode cX9_tallyHeard 79 = .ok (.getfield 55, 3) := by decide +kernel
theorem dX9_tallyHeard_82 : decode cX9_tallyHeard 82 = .ok (.iload 5, 2) := by decide +kernel
theorem dX9_tallyHeard_84 : decode cX9_tallyHeard 84 = .ok (.dup2, 1) := by decide +kernel
theorem dX9_tallyHeard_85 : decode cX9_tallyHeard 85 = .ok (.iaload, 1) := by decide +kernel
theorem dX9_tallyHeard_86 : decode cX9_tallyHeard 86 = .ok (.iload 4, 2) := by decide +kernel
theorem dX9_tallyHeard_88 : decode cX9_tallyHeard 88 = .ok (.iload 5, 2) := by decide +kernel
theorem dX9_tallyHeard_90 : decode cX9_tallyHeard 90 = .ok (.ishr, 1) := by decide +kernel
theorem dX9_tallyHeard_91 : decode cX9_tallyHeard 91 = .ok (.iconst 1, 1) := by decide +kernel
theorem dX9_tallyHeard_92 : decode cX9_tallyHeard 92 = .ok (.iand, 1) := by decide +kernel
theorem dX9_tallyHeard_93 : decode cX9_tallyHeard 93 = .ok (.iadd, 1) := by decide +kernel
theorem dX9_tallyHeard_94 : decode cX9_tallyHeard 94 = .ok (.iastore, 1) := by decide +kernel
theorem dX9_tallyHeard_95 : decode cX9_tallyHeard 95 = .ok (.iinc 5 1, 3) := by decide +kernel
theorem dX9_tallyHeard_98 : decode cX9_tallyHeard 98 = .ok (.goto (-27), 3) := by decide +kernel
theorem dX9_tallyHeard_101 : decode cX9_tallyHeard 101 = .ok (.iinc 3 1, 3) := by decide +kernel
theorem dX9_tallyHeard_104 : decode cX9_tallyHeard 104 = .ok (.goto (-66), 3) := by decide +kernel
theorem dX9_tallyHeard_107 : decode cX9_tallyHeard 107 = .ok (.iload_n 1, 1) := by decide +kernel
theorem dX9_tallyHeard_108 : decode cX9_tallyHeard 108 = .ok (.ireturn, 1) := by decide +kernel
theorem dX9_gain_0 : decode cX9_gain 0 = .ok (.iload_n 0, 1) := by decide +kernel
theorem dX9_gain_1 : decode cX9_gain 1 = .ok (.ifCond .ne 13, 3) := by decide +kernel
theorem dX9_gain_4 : decode cX9_gain 4 = .ok (.iload_n 1, 1) := by decide +kernel
theorem dX9_gain_5 : decode cX9_gain 5 = .ok (.ifCond .ne 7, 3) := by decide +kernel
theorem dX9_gain_8 : decode cX9_gain 8 = .ok (.iload_n 2, 1) := by decide +kernel
theorem dX9_gain_9 : decode cX9_gain 9 = .ok (.goto 4, 3) := by decide +kernel
theorem dX9_gain_12 : decode cX9_gain 12 = .ok (.iconst 0, 1) := by decide +kernel
theorem dX9_gain_13 : decode cX9_gain 13 = .ok (.ireturn, 1) := by decide +kernel
theorem dX9_gain_14 : decode cX9_gain 14 = .ok (.iload_n 1, 1) := by decide +kernel
theorem dX9_gain_15 : decode cX9_gain 15 = .ok (.ifCond .ne 9, 3) := by decide +kernel
theorem dX9_gain_18 : decode cX9_gain 18 = .ok (.iload_n 2, 1) := by decide +kernel
theorem dX9_gain_19 : decode cX9_gain 19 = .ok (.iload_n 3, 1) := by decide +kernel
theorem dX9_gain_20 : decode cX9_gain 20 = .ok (.iadd, 1) := by decide +kernel
theorem dX9_gain_21 : decode cX9_gain 21 = .ok (.goto 5, 3) := by decide +kernel
theorem dX9_gain_24 : decode cX9_gain 24 = .ok (.iload_n 3, 1) := by decide +kernel
theorem dX9_gain_25 : decode cX9_gain 25 = .ok (.ineg, 1) := by decide +kernel
theorem dX9_gain_26 : decode cX9_gain 26 = .ok (.ireturn, 1) := by decide +kernel
theorem dX9_power_0 : decode cX9_power 0 = .ok (.lconst 1, 1) := by decide +kernel
theorem dX9_power_1 : decode cX9_power 1 = .ok (.lstore_n 2, 1) := by decide +kernel
theorem dX9_power_2 : decode cX9_power 2 = .ok (.iconst 0, 1) := by decide +kernel
theorem dX9_power_3 : decode cX9_power 3 = .ok (.istore 4, 2) := by decide +kernel
theorem dX9_power_5 : decode cX9_power 5 = .ok (.iload 4, 2) := by decide +kernel
theorem dX9_power_7 : decode cX9_power 7 = .ok (.iload_n 1, 1) := by decide +kernel
theorem dX9_power_8 : decode cX9_power 8 = .ok (.if_icmp .ge 14, 3) := by decide +kernel
theorem dX9_power_11 : decode cX9_power 11 = .ok (.lload_n 2, 1) := by decide +kernel
theorem dX9_power_12 : decode cX9_power 12 = .ok (.iload_n 0, 1) := by decide +kernel
theorem dX9_power_13 : decode cX9_power 13 = .ok (.i2l, 1) := by decide +kernel
theorem dX9_power_14 : decode cX9_power 14 = .ok (.lmul, 1) := by decide +kernel
theorem dX9_power_15 : decode cX9_power 15 = .ok (.lstore_n 2, 1) := by decide +kernel
theorem dX9_power_16 : decode cX9_power 16 = .ok (.iinc 4 1, 3) := by decide +kernel
theorem dX9_power_19 : decode cX9_power 19 = .ok (.goto (-14), 3) := by decide +kernel
theorem dX9_power_22 : decode cX9_power 22 = .ok (.lload_n 2, 1) := by decide +kernel
theorem dX9_power_23 : decode cX9_power 23 = .ok (.lreturn, 1) := by decide +kernel
theorem dX9_choices_0 : decode cX9_choices 0 = .ok (.lconst 1, 1) := by decide +kernel
theorem dX9_choices_1 : decode cX9_choices 1 = .ok (.lstore_n 2, 1) := by decide +kernel
theorem dX9_choices_2 : decode cX9_choices 2 = .ok (.iconst 1, 1) := by decide +kernel
theorem dX9_choices_3 : decode cX9_choices 3 = .ok (.istore 4, 2) := by decide +kernel
theorem dX9_choices_5 : decode cX9_choices 5 = .ok (.iload 4, 2) := by decide +kernel
theorem dX9_choices_7 : decode cX9_choices 7 = .ok (.iload_n 1, 1) := by decide +kernel
theorem dX9_choices_8 : decode cX9_choices 8 = .ok (.if_icmp .gt 23, 3) := by decide +kernel
theorem dX9_choices_11 : decode cX9_choices 11 = .ok (.lload_n 2, 1) := by decide +kernel
theorem dX9_choices_12 : decode cX9_choices 12 = .ok (.iload_n 0, 1) := by decide +kernel
theorem dX9_choices_13 : decode cX9_choices 13 = .ok (.iload_n 1, 1) := by decide +kernel
theorem dX9_choices_14 : decode cX9_choices 14 = .ok (.isub, 1) := by decide +kernel
theorem dX9_choices_15 : decode cX9_choices 15 = .ok (.iload 4, 2) := by decide +kernel
theorem dX9_choices_17 : decode cX9_choices 17 = .ok (.iadd, 1) := by decide +kernel
theorem dX9_choices_18 : decode cX9_choices 18 = .ok (.i2l, 1) := by decide +kernel
theorem dX9_choices_19 : decode cX9_choices 19 = .ok (.lmul, 1) := by decide +kernel
theorem dX9_choices_20 : decode cX9_choices 20 = .ok (.iload 4, 2) := by decide +kernel
theorem dX9_choices_22 : decode cX9_choices 22 = .ok (.i2l, 1) := by decide +kernel
theorem dX9_choices_23 : decode cX9_choices 23 = .ok (.ldiv, 1) := by decide +kernel
theorem dX9_choices_24 : decode cX9_choices 24 = .ok (.lstore_n 2, 1) := by decide +kernel
theorem dX9_choices_25 : decode cX9_choices 25 = .ok (.iinc 4 1, 3) := by decide +kernel
theorem dX9_choices_28 : decode cX9_choices 28 = .ok (.goto (-23), 3) := by decide +kernel
theorem dX9_choices_31 : decode cX9_choices 31 = .ok (.lload_n 2, 1) := by decide +kernel
theorem dX9_choices_32 : decode cX9_choices 32 = .ok (.lreturn, 1) := by decide +kernel
theorem dX9_given_0 : decode cX9_given 0 = .ok (.iconst 0, 1) := by decide +kernel
theorem dX9_given_1 : decode cX9_given 1 = .ok (.istore_n 3, 1) := by decide +kernel
theorem dX9_given_2 : decode cX9_given 2 = .ok (.iconst 0, 1) := by decide +kernel
theorem dX9_given_3 : decode cX9_given 3 = .ok (.istore 4, 2) := by decide +kernel
theorem dX9_given_5 : decode cX9_given 5 = .ok (.iload 4, 2) := by decide +kernel
theorem dX9_given_7 : decode cX9_given 7 = .ok (.aload_n 0, 1) := by decide +kernel
theorem dX9_given_8 : decode cX9_given 8 = .ok (.getfield 19, 3) := by decide +kernel
theorem dX9_given_11 : decode cX9_given 11 = .ok (.getfield 106, 3) := by decide +kernel
theorem dX9_given_14 : decode cX9_given 14 = .ok (.getfield 112, 3) := by decide +kernel
theorem dX9_given_17 : decode cX9_given 17 = .ok (.if_icmp .ge 36, 3) := by decide +kernel
theorem dX9_given_20 : decode cX9_given 20 = .ok (.iload_n 3, 1) := by decide +kernel
theorem dX9_given_21 : decode cX9_given 21 = .ok (.iload_n 1, 1) := by decide +kernel
theorem dX9_given_22 : decode cX9_given 22 = .ok (.iload 4, 2) := by decide +kernel
theorem dX9_given_24 : decode cX9_given 24 = .ok (.ishr, 1) := by decide +kernel
theorem dX9_given_25 : decode cX9_given 25 = .ok (.iconst 1, 1) := by decide +kernel
theorem dX9_given_26 : decode cX9_given 26 = .ok (.iand, 1) := by decide +kernel
theorem dX9_given_27 : decode cX9_given 27 = .ok (.aload_n 0, 1) := by decide +kernel
theorem dX9_given_28 : decode cX9_given 28 = .ok (.getfield 19, 3) := by decide +kernel
theorem dX9_given_31 : decode cX9_given 31 = .ok (.getfield 106, 3) := by decide +kernel
theorem dX9_given_34 : decode cX9_given 34 = .ok (.getfield 215, 3) := by decide +kernel
theorem dX9_given_37 : decode cX9_given 37 = .ok (.iload 4, 2) := by decide +kernel
theorem dX9_given_39 : decode cX9_given 39 = .ok (.iaload, 1) := by decide +kernel
theorem dX9_given_40 : decode cX9_given 40 = .ok (.iload_n 2, 1) := by decide +kernel
theorem dX9_given_41 : decode cX9_given 41 = .ok (.invokestatic 325, 3) := by decide +kernel
theorem dX9_given_44 : decode cX9_given 44 = .ok (.imul, 1) := by decide +kernel
theorem dX9_given_45 : decode cX9_given 45 = .ok (.iadd, 1) := by decide +kernel
theorem dX9_given_46 : decode cX9_given 46 = .ok (.istore_n 3, 1) := by decide +kernel
theorem dX9_given_47 : decode cX9_given 47 = .ok (.iinc 4 1, 3) := by decide +kernel
theorem dX9_given_50 : decode cX9_given 50 = .ok (.goto (-45), 3) := by decide +kernel
theorem dX9_given_53 : decode cX9_given 53 = .ok (.iload_n 3, 1) := by decide +kernel
theorem dX9_given_54 : decode cX9_given 54 = .ok (.ireturn, 1) := by decide +kernel
theorem dX9_draw_0 : decode cX9_draw 0 = .ok (.aload_n 0, 1) := by decide +kernel
theorem dX9_draw_1 : decode cX9_draw 1 = .ok (.aload_n 0, 1) := by decide +kernel
theorem dX9_draw_2 : decode cX9_draw 2 = .ok (.getfield 400, 3) := by decide +kernel
theorem dX9_draw_5 : decode cX9_draw 5 = .ok (.ldc_w 403, 3) := by decide +kernel
theorem dX9_draw_8 : decode cX9_draw 8 = .ok (.imul, 1) := by decide +kernel
theorem dX9_draw_9 : decode cX9_draw 9 = .ok (.sipush 12345, 3) := by decide +kernel
theorem dX9_draw_12 : decode cX9_draw 12 = .ok (.iadd, 1) := by decide +kernel
theorem dX9_draw_13 : decode cX9_draw 13 = .ok (.putfield 400, 3) := by decide +kernel
theorem dX9_draw_16 : decode cX9_draw 16 = .ok (.iload_n 1, 1) := by decide +kernel
theorem dX9_draw_17 : decode cX9_draw 17 = .ok (.ifCond .le 19, 3) := by decide +kernel
theorem dX9_draw_20 : decode cX9_draw 20 = .ok (.aload_n 0, 1) := by decide +kernel
theorem dX9_draw_21 : decode cX9_draw 21 = .ok (.getfield 400, 3) := by decide +kernel
theorem dX9_draw_24 : decode cX9_draw 24 = .ok (.bipush 16, 2) := by decide +kernel
theorem dX9_draw_26 : decode cX9_draw 26 = .ok (.iushr, 1) := by decide +kernel
theorem dX9_draw_27 : decode cX9_draw 27 = .ok (.sipush 32767, 3) := by decide +kernel
theorem dX9_draw_30 : decode cX9_draw 30 = .ok (.iand, 1) := by decide +kernel
theorem dX9_draw_31 : decode cX9_draw 31 = .ok (.iload_n 1, 1) := by decide +kernel
theorem dX9_draw_32 : decode cX9_draw 32 = .ok (.irem, 1) := by decide +kernel
theorem dX9_draw_33 : decode cX9_draw 33 = .ok (.goto 4, 3) := by decide +kernel
theorem dX9_draw_36 : decode cX9_draw 36 = .ok (.iconst 0, 1) := by decide +kernel
theorem dX9_draw_37 : decode cX9_draw 37 = .ok (.ireturn, 1) := by decide +kernel
theorem dX9_liveSunday_0 : decode cX9_liveSunday 0 = .ok (.aload_n 0, 1) := by decide +kernel
theorem dX9_liveSunday_1 : decode cX9_liveSunday 1 = .ok (.getfield 44, 3) := by decide +kernel
theorem dX9_liveSunday_4 : decode cX9_liveSunday 4 = .ok (.aload_n 0, 1) := by decide +kernel
theorem dX9_liveSunday_5 : decode cX9_liveSunday 5 = .ok (.getfield 33, 3) := by decide +kernel
theorem dX9_liveSunday_8 : decode cX9_liveSunday 8 = .ok (.getfield 128, 3) := by decide +kernel
theorem dX9_liveSunday_11 : decode cX9_liveSunday 11 = .ok (.invokevirtual 256, 3) := by decide +kernel
theorem dX9_liveSunday_14 : decode cX9_liveSunday 14 = .ok (.aload_n 0, 1) := by decide +kernel
theorem dX9_liveSunday_15 : decode cX9_liveSunday 15 = .ok (.iload_n 1, 1) := by decide +kernel
theorem dX9_liveSunday_16 : decode cX9_liveSunday 16 = .ok (.putfield 400, 3) := by decide +kernel
theorem dX9_liveSunday_19 : decode cX9_liveSunday 19 = .ok (.aload_n 0, 1) := by decide +kernel
theorem dX9_liveSunday_20 : decode cX9_liveSunday 20 = .ok (.getfield 19, 3) := by decide +kernel
theorem dX9_liveSunday_23 : decode cX9_liveSunday 23 = .ok (.getfield 106, 3) := by decide +kernel
theorem dX9_liveSunday_26 : decode cX9_liveSunday 26 = .ok (.getfield 112, 3) := by decide +kernel
theorem dX9_liveSunday_29 : decode cX9_liveSunday 29 = .ok (.istore 4, 2) := by decide +kernel
theorem dX9_liveSunday_31 : decode cX9_liveSunday 31 = .ok (.iconst 0, 1) := by decide +kernel
theorem dX9_liveSunday_32 : decode cX9_liveSunday 32 = .ok (.istore 5, 2) := by decide +kernel
theorem dX9_liveSunday_34 : decode cX9_liveSunday 34 = .ok (.iload 5, 2) := by decide +kernel
theorem dX9_liveSunday_36 : decode cX9_liveSunday 36 = .ok (.iload_n 2, 1) := by decide +kernel
theorem dX9_liveSunday_37 : decode cX9_liveSunday 37 = .ok (.if_icmp .ge 97, 3) := by decide +kernel
theorem dX9_liveSunday_40 : decode cX9_liveSunday 40 = .ok (.iload 4, 2) := by decide +kernel
theorem dX9_liveSunday_42 : decode cX9_liveSunday 42 = .ok (.ifCond .le 23, 3) := by decide +kernel
theorem dX9_liveSunday_45 : decode cX9_liveSunday 45 = .ok (.aload_n 0, 1) := by decide +kernel
theorem dX9_liveSunday_46 : decode cX9_liveSunday 46 = .ok (.getfield 44, 3) := by decide +kernel
theorem dX9_liveSunday_49 : decode cX9_liveSunday 49 = .ok (.dup, 1) := by decide +kernel
theorem dX9_liveSunday_50 : decode cX9_liveSunday 50 = .ok (.getfield 182, 3) := by decide +kernel
theorem dX9_liveSunday_53 : decode cX9_liveSunday 53 = .ok (.iconst 1, 1) := by decide +kernel
theorem dX9_liveSunday_54 : decode cX9_liveSunday 54 = .ok (.aload_n 0, 1) := by decide +kernel
theorem dX9_liveSunday_55 : decode cX9_liveSunday 55 = .ok (.iload 4, 2) := by decide +kernel
theorem dX9_liveSunday_57 : decode cX9_liveSunday 57 = .ok (.invokevirtual 404, 3) := by decide +kernel
theorem dX9_liveSunday_60 : decode cX9_liveSunday 60 = .ok (.ishl, 1) := by decide +kernel
theorem dX9_liveSunday_61 : decode cX9_liveSunday 61 = .ok (.ixor, 1) := by decide +kernel
theorem dX9_liveSunday_62 : decode cX9_liveSunday 62 = .ok (.putfield 182, 3) := by decide +kernel
theorem dX9_liveSunday_65 : decode cX9_liveSunday 65 = .ok (.aload_n 0, 1) := by decide +kernel
theorem dX9_liveSunday_66 : decode cX9_liveSunday 66 = .ok (.getfield 19, 3) := by decide +kernel
theorem dX9_liveSunday_69 : decode cX9_liveSunday 69 = .ok (.aload_n 0, 1) := by decide +kernel
theorem dX9_liveSunday_70 : decode cX9_liveSunday 70 = .ok (.getfield 44, 3) := by decide +kernel
theorem dX9_liveSunday_73 : decode cX9_liveSunday 73 = .ok (.invokevirtual 260, 3) := by decide +kernel
theorem dX9_liveSunday_76 : decode cX9_liveSunday 76 = .ok (.pop, 1) := by decide +kernel
theorem dX9_liveSunday_77 : decode cX9_liveSunday 77 = .ok (.iload 4, 2) := by decide +kernel
theorem dX9_liveSunday_79 : decode cX9_liveSunday 79 = .ok (.ifCond .le 37, 3) := by decide +kernel
theorem dX9_liveSunday_82 : decode cX9_liveSunday 82 = .ok (.aload_n 0, 1) := by decide +kernel
theorem dX9_liveSunday_83 : decode cX9_liveSunday 83 = .ok (.bipush 16, 2) := by decide +kernel
theorem dX9_liveSunday_85 : decode cX9_liveSunday 85 = .ok (.invokevirtual 404, 3) := by decide +kernel
theorem dX9_liveSunday_88 : decode cX9_liveSunday 88 = .ok (.iload_n 3, 1) := by decide +kernel
theorem dX9_liveSunday_89 : decode cX9_liveSunday 89 = .ok (.if_icmp .ge 27, 3) := by decide +kernel
theorem dX9_liveSunday_92 : decode cX9_liveSunday 92 = .ok (.aload_n 0, 1) := by decide +kernel
theorem dX9_liveSunday_93 : decode cX9_liveSunday 93 = .ok (.getfield 19, 3) := by decide +kernel
theorem dX9_liveSunday_96 : decode cX9_liveSunday 96 = .ok (.aload_n 0, 1) := by decide +kernel
theorem dX9_liveSunday_97 : decode cX9_liveSunday 97 = .ok (.getfield 44, 3) := by decide +kernel
theorem dX9_liveSunday_100 : decode cX9_liveSunday 100 = .ok (.invokevirtual 407, 3) := by decide +kernel
theorem dX9_liveSunday_103 : decode cX9_liveSunday 103 = .ok (.pop, 1) := by decide +kernel
theorem dX9_liveSunday_104 : decode cX9_liveSunday 104 = .ok (.aload_n 0, 1) := by decide +kernel
theorem dX9_liveSunday_105 : decode cX9_liveSunday 105 = .ok (.getfield 19, 3) := by decide +kernel
theorem dX9_liveSunday_108 : decode cX9_liveSunday 108 = .ok (.aload_n 0, 1) := by decide +kernel
theorem dX9_liveSunday_109 : decode cX9_liveSunday 109 = .ok (.getfield 44, 3) := by decide +kernel
theorem dX9_liveSunday_112 : decode cX9_liveSunday 112 = .ok (.invokevirtual 260, 3) := by decide +kernel
theorem dX9_liveSunday_115 : decode cX9_liveSunday 115 = .ok (.pop, 1) := by decide +kernel
theorem dX9_liveSunday_116 : decode cX9_liveSunday 116 = .ok (.aload_n 0, 1) := by decide +kernel
theorem dX9_liveSunday_117 : decode cX9_liveSunday 117 = .ok (.getfield 19, 3) := by decide +kernel
theorem dX9_liveSunday_120 : decode cX9_liveSunday 120 = .ok (.aload_n 0, 1) := by decide +kernel
theorem dX9_liveSunday_121 : decode cX9_liveSunday 121 = .ok (.getfield 44, 3) := by decide +kernel
theorem dX9_liveSunday_124 : decode cX9_liveSunday 124 = .ok (.invokevirtual 411, 3) := by decide +kernel
theorem dX9_liveSunday_127 : decode cX9_liveSunday 127 = .ok (.pop, 1) := by decide +kernel
theorem dX9_liveSunday_128 : decode cX9_liveSunday 128 = .ok (.iinc 5 1, 3) := by decide +kernel
theorem dX9_liveSunday_131 : decode cX9_liveSunday 131 = .ok (.goto (-97), 3) := by decide +kernel
theorem dX9_liveSunday_134 : decode cX9_liveSunday 134 = .ok (.return_, 1) := by decide +kernel
theorem dX10_init_0 : decode cX10_init 0 = .ok (.aload_n 0, 1) := by decide +kernel
theorem dX10_init_1 : decode cX10_init 1 = .ok (.invokespecial 1, 3) := by decide +kernel
theorem dX10_init_4 : decode cX10_init 4 = .ok (.aload_n 0, 1) := by decide +kernel
theorem dX10_init_5 : decode cX10_init 5 = .ok (.iconst (-1), 1) := by decide +kernel
theorem dX10_init_6 : decode cX10_init 6 = .ok (.putfield 9, 3) := by decide +kernel
theorem dX10_init_9 : decode cX10_init 9 = .ok (.aload_n 0, 1) := by decide +kernel
theorem dX10_init_10 : decode cX10_init 10 = .ok (.sipush 600, 3) := by decide +kernel
theorem dX10_init_13 : decode cX10_init 13 = .ok (.newarray .int, 2) := by decide +kernel
theorem dX10_init_15 : decode cX10_init 15 = .ok (.putfield 13, 3) := by decide +kernel
theorem dX10_init_18 : decode cX10_init 18 = .ok (.aload_n 0, 1) := by decide +kernel
theorem dX10_init_19 : decode cX10_init 19 = .ok (.iconst 2, 1) := by decide +kernel
theorem dX10_init_20 : decode cX10_init 20 = .ok (.newarray .int, 2) := by decide +kernel
theorem dX10_init_22 : decode cX10_init 22 = .ok (.putfield 17, 3) := by decide +kernel
theorem dX10_init_25 : decode cX10_init 25 = .ok (.aload_n 0, 1) := by decide +kernel
theorem dX10_init_26 : decode cX10_init 26 = .ok (.iconst 4, 1) := by decide +kernel
theorem dX10_init_27 : decode cX10_init 27 = .ok (.newarray .int, 2) := by decide +kernel
theorem dX10_init_29 : decode cX10_init 29 = .ok (.putfield 20, 3) := by decide +kernel
theorem dX10_init_32 : decode cX10_init 32 = .ok (.aload_n 0, 1) := by decide +kernel
theorem dX10_init_33 : decode cX10_init 33 = .ok (.iconst 4, 1) := by decide +kernel
theorem dX10_init_34 : decode cX10_init 34 = .ok (.newarray .int, 2) := by decide +kernel
theorem dX10_init_36 : decode cX10_init 36 = .ok (.putfield 23, 3) := by decide +kernel
theorem dX10_init_39 : decode cX10_init 39 = .ok (.aload_n 0, 1) := by decide +kernel
theorem dX10_init_40 : decode cX10_init 40 = .ok (.bipush 7, 2) := by decide +kernel
theorem dX10_init_42 : decode cX10_init 42 = .ok (.iconst 3, 1) := by decide +kernel
theorem dX10_init_43 : decode cX10_init 43 = .ok (.multianewarray 26 2, 4) := by decide +kernel
theorem dX10_init_47 : decode cX10_init 47 = .ok (.putfield 28, 3) := by decide +kernel
theorem dX10_init_50 : decode cX10_init 50 = .ok (.aload_n 0, 1) := by decide +kernel
theorem dX10_init_51 : decode cX10_init 51 = .ok (.bipush 7, 2) := by decide +kernel
theorem dX10_init_53 : decode cX10_init 53 = .ok (.iconst 3, 1) := by decide +kernel
theorem dX10_init_54 : decode cX10_init 54 = .ok (.multianewarray 26 2, 4) := by decide +kernel
theorem dX10_init_58 : decode cX10_init 58 = .ok (.putfield 31, 3) := by decide +kernel
theorem dX10_init_61 : decode cX10_init 61 = .ok (.aload_n 0, 1) := by decide +kernel
theorem dX10_init_62 : decode cX10_init 62 = .ok (.bipush 20, 2) := by decide +kernel
theorem dX10_init_64 : decode cX10_init 64 = .ok (.iconst 2, 1) := by decide +kernel
theorem dX10_init_65 : decode cX10_init 65 = .ok (.multianewarray 26 2, 4) := by decide +kernel
theorem dX10_init_69 : decode cX10_init 69 = .ok (.putfield 34, 3) := by decide +kernel
theorem dX10_init_72 : decode cX10_init 72 = .ok (.aload_n 0, 1) := by decide +kernel
theorem dX10_init_73 : decode cX10_init 73 = .ok (.bipush 20, 2) := by decide +kernel
theorem dX10_init_75 : decode cX10_init 75 = .ok (.iconst 2, 1) := by decide +kernel
theorem dX10_init_76 : decode cX10_init 76 = .ok (.multianewarray 26 2, 4) := by decide +kernel
theorem dX10_init_80 : decode cX10_init 80 = .ok (.putfield 37, 3) := by decide +kernel
theorem dX10_init_83 : decode cX10_init 83 = .ok (.aload_n 0, 1) := by decide +kernel
theorem dX10_init_84 : decode cX10_init 84 = .ok (.bipush 12, 2) := by decide +kernel
theorem dX10_init_86 : decode cX10_init 86 = .ok (.iconst 2, 1) := by decide +kernel
theorem dX10_init_87 : decode cX10_init 87 = .ok (.multianewarray 26 2, 4) := by decide +kernel
theorem dX10_init_91 : decode cX10_init 91 = .ok (.putfield 40, 3) := by decide +kernel
theorem dX10_init_94 : decode cX10_init 94 = .ok (.aload_n 0, 1) := by decide +kernel
theorem dX10_init_95 : decode cX10_init 95 = .ok (.bipush 12, 2) := by decide +kernel
theorem dX10_init_97 : decode cX10_init 97 = .ok (.iconst 2, 1) := by decide +kernel
theorem dX10_init_98 : decode cX10_init 98 = .ok (.multianewarray 26 2, 4) := by decide +kernel
theorem dX10_init_102 : decode cX10_init 102 = .ok (.putfield 43, 3) := by decide +kernel
theorem dX10_init_105 : decode cX10_init 105 = .ok (.aload_n 0, 1) := by decide +kernel
theorem dX10_init_106 : decode cX10_init 106 = .ok (.sipush 160, 3) := by decide +kernel
theorem dX10_init_109 : decode cX10_init 109 = .ok (.iconst 2, 1) := by decide +kernel
theorem dX10_init_110 : decode cX10_init 110 = .ok (.multianewarray 26 2, 4) := by decide +kernel
theorem dX10_init_114 : decode cX10_init 114 = .ok (.putfield 46, 3) := by decide +kernel
theorem dX10_init_117 : decode cX10_init 117 = .ok (.aload_n 0, 1) := by decide +kernel
theorem dX10_init_118 : decode cX10_init 118 = .ok (.sipush 160, 3) := by decide +kernel
theorem dX10_init_121 : decode cX10_init 121 = .ok (.iconst 2, 1) := by decide +kernel
theorem dX10_init_122 : decode cX10_init 122 = .ok (.multianewarray 26 2, 4) := by decide +kernel
theorem dX10_init_126 : decode cX10_init 126 = .ok (.putfield 49, 3) := by decide +kernel
theorem dX10_init_129 : decode cX10_init 129 = .ok (.aload_n 0, 1) := by decide +kernel
theorem dX10_init_130 : decode cX10_init 130 = .ok (.bipush 20, 2) := by decide +kernel
theorem dX10_init_132 : decode cX10_init 132 = .ok (.iconst 2, 1) := by decide +kernel
theorem dX10_init_133 : decode cX10_init 133 = .ok (.multianewarray 26 2, 4) := by decide +kernel
theorem dX10_init_137 : decode cX10_init 137 = .ok (.putfield 52, 3) := by decide +kernel
theorem dX10_init_140 : decode cX10_init 140 = .ok (.aload_n 0, 1) := by decide +kernel
theorem dX10_init_141 : decode cX10_init 141 = .ok (.bipush 20, 2) := by decide +kernel
theorem dX10_init_143 : decode cX10_init 143 = .ok (.iconst 2, 1) := by decide +kernel
theorem dX10_init_144 : decode cX10_init 144 = .ok (.multianewarray 26 2, 4) := by decide +kernel
theorem dX10_init_148 : decode cX10_init 148 = .ok (.putfield 55, 3) := by decide +kernel
theorem dX10_init_151 : decode cX10_init 151 = .ok (.aload_n 0, 1) := by decide +kernel
theorem dX10_init_152 : decode cX10_init 152 = .ok (.sipush 160, 3) := by decide +kernel
theorem dX10_init_155 : decode cX10_init 155 = .ok (.newarray .int, 2) := by decide +kernel
theorem dX10_init_157 : decode cX10_init 157 = .ok (.putfield 58, 3) := by decide +kernel
theorem dX10_init_160 : decode cX10_init 160 = .ok (.aload_n 0, 1) := by decide +kernel
theorem dX10_init_161 : decode cX10_init 161 = .ok (.bipush 8, 2) := by decide +kernel
theorem dX10_init_163 : decode cX10_init 163 = .ok (.newarray .int, 2) := by decide +kernel
theorem dX10_init_165 : decode cX10_init 165 = .ok (.putfield 61, 3) := by decide +kernel
theorem dX10_init_168 : decode cX10_init 168 = .ok (.aload_n 0, 1) := by decide +kernel
theorem dX10_init_169 : decode cX10_init 169 = .ok (.bipush 80, 2) := by decide +kernel
theorem dX10_init_171 : decode cX10_init 171 = .ok (.iconst 4, 1) := by decide +kernel
theorem dX10_init_172 : decode cX10_init 172 = .ok (.multianewarray 26 2, 4) := by decide +kernel
theorem dX10_init_176 : decode cX10_init 176 = .ok (.putfield 64, 3) := by decide +kernel
theorem dX10_init_179 : decode cX10_init 179 = .ok (.aload_n 0, 1) := by decide +kernel
theorem dX10_init_180 : decode cX10_init 180 = .ok (.bipush 57, 2) := by decide +kernel
theorem dX10_init_182 : decode cX10_init 182 = .ok (.newarray .int, 2) := by decide +kernel
theorem dX10_init_184 : decode cX10_init 184 = .ok (.putfield 67, 3) := by decide +kernel
theorem dX10_init_187 : decode cX10_init 187 = .ok (.aload_n 0, 1) := by decide +kernel
theorem dX10_init_188 : decode cX10_init 188 = .ok (.bipush 57, 2) := by decide +kernel
theorem dX10_init_190 : decode cX10_init 190 = .ok (.newarray .int, 2) := by decide +kernel
theorem dX10_init_192 : decode cX10_init 192 = .ok (.putfield 70, 3) := by decide +kernel
theorem dX10_init_195 : decode cX10_init 195 = .ok (.aload_n 0, 1) := by decide +kernel
theorem dX10_init_196 : decode cX10_init 196 = .ok (.bipush 16, 2) := by decide +kernel
theorem dX10_init_198 : decode cX10_init 198 = .ok (.bipush 57, 2) := by decide +kernel
theorem dX10_init_200 : decode cX10_init 200 = .ok (.multianewarray 26 2, 4) := by decide +kernel
theorem dX10_init_204 : decode cX10_init 204 = .ok (.putfield 73, 3) := by decide +kernel
theorem dX10_init_207 : decode cX10_init 207 = .ok (.aload_n 0, 1) := by decide +kernel
theorem dX10_init_208 : decode cX10_init 208 = .ok (.iconst 3, 1) := by decide +kernel
theorem dX10_init_209 : decode cX10_init 209 = .ok (.sipush 970, 3) := by decide +kernel
theorem dX10_init_212 : decode cX10_init 212 = .ok (.multianewarray 26 2, 4) := by decide +kernel
theorem dX10_init_216 : decode cX10_init 216 = .ok (.putfield 76, 3) := by decide +kernel
theorem dX10_init_219 : decode cX10_init 219 = .ok (.aload_n 0, 1) := by decide +kernel
theorem dX10_init_220 : decode cX10_init 220 = .ok (.bipush 7, 2) := by decide +kernel
theorem dX10_init_222 : decode cX10_init 222 = .ok (.newarray .int, 2) := by decide +kernel
theorem dX10_init_224 : decode cX10_init 224 = .ok (.putfield 79, 3) := by decide +kernel
theorem dX10_init_227 : decode cX10_init 227 = .ok (.aload_n 0, 1) := by decide +kernel
theorem dX10_init_228 : decode cX10_init 228 = .ok (.bipush 7, 2) := by decide +kernel
theorem dX10_init_230 : decode cX10_init 230 = .ok (.newarray .int, 2) := by decide +kernel
theorem dX10_init_232 : decode cX10_init 232 = .ok (.putfield 82, 3) := by decide +kernel
theorem dX10_init_235 : decode cX10_init 235 = .ok (.aload_n 0, 1) := by decide +kernel
theorem dX10_init_236 : decode cX10_init 236 = .ok (.bipush 14, 2) := by decide +kernel
theorem dX10_init_238 : decode cX10_init 238 = .ok (.newarray .long, 2) := by decide +kernel
theorem dX10_init_240 : decode cX10_init 240 = .ok (.putfield 85, 3) := by decide +kernel
theorem dX10_init_243 : decode cX10_init 243 = .ok (.aload_n 0, 1) := by decide +kernel
theorem dX10_init_244 : decode cX10_init 244 = .ok (.invokevirtual 89, 3) := by decide +kernel
theorem dX10_init_247 : decode cX10_init 247 = .ok (.aload_n 0, 1) := by decide +kernel
theorem dX10_init_248 : decode cX10_init 248 = .ok (.invokevirtual 92, 3) := by decide +kernel
theorem dX10_init_251 : decode cX10_init 251 = .ok (.return_, 1) := by decide +kernel
theorem dX10_tellsNothing_0 : decode cX10_tellsNothing 0 = .ok (.iconst 0, 1) := by decide +kernel
theorem dX10_tellsNothing_1 : decode cX10_tellsNothing 1 = .ok (.istore_n 1, 1) := by decide +kernel
theorem dX10_tellsNothing_2 : decode cX10_tellsNothing 2 = .ok (.iload_n 1, 1) := by decide +kernel
theorem dX10_tellsNothing_3 : decode cX10_tellsNothing 3 = .ok (.iconst 3, 1) := by decide +kernel
theorem dX10_tellsNothing_4 : decode cX10_tellsNothing 4 = .ok (.if_icmp .ge 16, 3) := by decide +kernel
theorem dX10_tellsNothing_7 : decode cX10_tellsNothing 7 = .ok (.aload_n 0, 1) := by decide +kernel
theorem dX10_tellsNothing_8 : decode cX10_tellsNothing 8 = .ok (.getfield 20, 3) := by decide +kernel
theorem dX10_tellsNothing_11 : decode cX10_tellsNothing 11 = .ok (.iload_n 1, 1) := by decide +kernel
theorem dX10_tellsNothing_12 : decode cX10_tellsNothing 12 = .ok (.iconst 0, 1) := by decide +kernel
theorem dX10_tellsNothing_13 : decode cX10_tellsNothing 13 = .ok (.iastore, 1) := by decide +kernel
theorem dX10_tellsNothing_14 : decode cX10_tellsNothing 14 = .ok (.iinc 1 1, 3) := by decide +kernel
theorem dX10_tellsNothing_17 : decode cX10_tellsNothing 17 = .ok (.goto (-15), 3) := by decide +kernel
theorem dX10_tellsNothing_20 : decode cX10_tellsNothing 20 = .ok (.aload_n 0, 1) := by decide +kernel
theorem dX10_tellsNothing_21 : decode cX10_tellsNothing 21 = .ok (.getfield 20, 3) := by decide +kernel
theorem dX10_tellsNothing_24 : decode cX10_tellsNothing 24 = .ok (.iconst 3, 1) := by decide +kernel
theorem dX10_tellsNothing_25 : decode cX10_tellsNothing 25 = .ok (.iconst 5, 1) := by decide +kernel
theorem dX10_tellsNothing_26 : decode cX10_tellsNothing 26 = .ok (.iastore, 1) := by decide +kernel
theorem dX10_tellsNothing_27 : decode cX10_tellsNothing 27 = .ok (.return_, 1) := by decide +kernel
theorem dX10_thrown_0 : decode cX10_thrown 0 = .ok (.aload_n 0, 1) := by decide +kernel
theorem dX10_thrown_1 : decode cX10_thrown 1 = .ok (.getfield 95, 3) := by decide +kernel
theorem dX10_thrown_4 : decode cX10_thrown 4 = .ok (.ireturn, 1) := by decide +kernel
theorem dX10_bad_0 : decode cX10_bad 0 = .ok (.iload_n 1, 1) := by decide +kernel
theorem dX10_bad_1 : decode cX10_bad 1 = .ok (.ifCond .eq 25, 3) := by decide +kernel
theorem dX10_bad_4 : decode cX10_bad 4 = .ok (.aload_n 0, 1) := by decide +kernel
theorem dX10_bad_5 : decode cX10_bad 5 = .ok (.getfield 95, 3) := by decide +kernel
theorem dX10_bad_8 : decode cX10_bad 8 = .ok (.ifCond .ne 18, 3) := by decide +kernel
theorem dX10_bad_11 : decode cX10_bad 11 = .ok (.aload_n 0, 1) := by decide +kernel
theorem dX10_bad_12 : decode cX10_bad 12 = .ok (.iload_n 2, 1) := by decide +kernel
theorem dX10_bad_13 : decode cX10_bad 13 = .ok (.putfield 95, 3) := by decide +kernel
theorem dX10_bad_16 : decode cX10_bad 16 = .ok (.aload_n 0, 1) := by decide +kernel
theorem dX10_bad_17 : decode cX10_bad 17 = .ok (.getfield 17, 3) := by decide +kernel
theorem dX10_bad_20 : decode cX10_bad 20 = .ok (.iload_n 3, 1) := by decide +kernel
theorem dX10_bad_21 : decode cX10_bad 21 = .ok (.dup2, 1) := by decide +kernel
theorem dX10_bad_22 : decode cX10_bad 22 = .ok (.iaload, 1) := by decide +kernel
theorem dX10_bad_23 : decode cX10_bad 23 = .ok (.iconst 1, 1) := by decide +kernel
theorem dX10_bad_24 : decode cX10_bad 24 = .ok (.iadd, 1) := by decide +kernel
theorem dX10_bad_25 : decode cX10_bad 25 = .ok (.iastore, 1) := by decide +kernel
theorem dX10_bad_26 : decode cX10_bad 26 = .ok (.aload_n 0, 1) := by decide +kernel
theorem dX10_bad_27 : decode cX10_bad 27 = .ok (.getfield 95, 3) := by decide +kernel
theorem dX10_bad_30 : decode cX10_bad 30 = .ok (.ifCond .eq 7, 3) := by decide +kernel
theorem dX10_bad_33 : decode cX10_bad 33 = .ok (.iconst 1, 1) := by decide +kernel
theorem dX10_bad_34 : decode cX10_bad 34 = .ok (.goto 4, 3) := by decide +kernel
theorem dX10_bad_37 : decode cX10_bad 37 = .ok (.iconst 0, 1) := by decide +kernel
theorem dX10_bad_38 : decode cX10_bad 38 = .ok (.ireturn, 1) := by decide +kernel
theorem dX10_in_0 : decode cX10_in 0 = .ok (.iload_n 0, 1) := by decide +kernel
theorem dX10_in_1 : decode cX10_in 1 = .ok (.iload_n 1, 1) := by decide +kernel
theorem dX10_in_2 : decode cX10_in 2 = .ok (.if_icmp .lt 12, 3) := by decide +kernel
theorem dX10_in_5 : decode cX10_in 5 = .ok (.iload_n 0, 1) := by decide +kernel
theorem dX10_in_6 : decode cX10_in 6 = .ok (.iload_n 2, 1) := by decide +kernel
theorem dX10_in_7 : decode cX10_in 7 = .ok (.if_icmp .gt 7, 3) := by decide +kernel
theorem dX10_in_10 : decode cX10_in 10 = .ok (.iconst 1, 1) := by decide +kernel
theorem dX10_in_11 : decode cX10_in 11 = .ok (.goto 4, 3) := by decide +kernel
theorem dX10_in_14 : decode cX10_in 14 = .ok (.iconst 0, 1) := by decide +kernel
theorem dX10_in_15 : decode cX10_in 15 = .ok (.ireturn, 1) := by decide +kernel
theorem dX10_less_0 : decode cX10_less 0 = .ok (.iload_n 0, 1) := by decide +kernel
theorem dX10_less_1 : decode cX10_less 1 = .ok (.iload_n 1, 1) := by decide +kernel
theorem dX10_less_2 : decode cX10_less 2 = .ok (.if_icmp .ge 7, 3) := by decide +kernel
theorem dX10_less_5 : decode cX10_less 5 = .ok (.iload_n 0, 1) := by decide +kernel
theorem dX10_less_6 : decode cX10_less 6 = .ok (.goto 4, 3) := by decide +kernel
theorem dX10_less_9 : decode cX10_less 9 = .ok (.iload_n 1, 1) := by decide +kernel
theorem dX10_less_10 : decode cX10_less 10 = .ok (.ireturn, 1) := by decide +kernel
theorem dX10_more_0 : decode cX10_more 0 = .ok (.iload_n 0, 1) := by decide +kernel
theorem dX10_more_1 : decode cX10_more 1 = .ok (.iload_n 1, 1) := by decide +kernel
theorem dX10_more_2 : decode cX10_more 2 = .ok (.if_icmp .le 7, 3) := by decide +kernel
theorem dX10_more_5 : decode cX10_more 5 = .ok (.iload_n 0, 1) := by decide +kernel
theorem dX10_more_6 : decode cX10_more 6 = .ok (.goto 4, 3) := by decide +kernel
theorem dX10_more_9 : decode cX10_more 9 = .ok (.iload_n 1, 1) := by decide +kernel
theorem dX10_more_10 : decode cX10_more 10 = .ok (.ireturn, 1) := by decide +kernel
theorem dX10_has_0 : decode cX10_has 0 = .ok (.iload_n 0, 1) := by decide +kernel
theorem dX10_has_1 : decode cX10_has 1 = .ok (.iload_n 1, 1) := by decide +kernel
theorem dX10_has_2 : decode cX10_has 2 = .ok (.ishr, 1) := by decide +kernel
theorem dX10_has_3 : decode cX10_has 3 = .ok (.iconst 1, 1) := by decide +kernel
theorem dX10_has_4 : decode cX10_has 4 = .ok (.iand, 1) := by decide +kernel
theorem dX10_has_5 : decode cX10_has 5 = .ok (.iconst 1, 1) := by decide +kernel
theorem dX10_has_6 : decode cX10_has 6 = .ok (.if_icmp .ne 7, 3) := by decide +kernel
theorem dX10_has_9 : decode cX10_has 9 = .ok (.iconst 1, 1) := by decide +kernel
theorem dX10_has_10 : decode cX10_has 10 = .ok (.goto 4, 3) := by decide +kernel
theorem dX10_has_13 : decode cX10_has 13 = .ok (.iconst 0, 1) := by decide +kernel
theorem dX10_has_14 : decode cX10_has 14 = .ok (.ireturn, 1) := by decide +kernel
theorem dX10_feed_0 : decode cX10_feed 0 = .ok (.aload_n 0, 1) := by decide +kernel
theorem dX10_feed_1 : decode cX10_feed 1 = .ok (.iconst 0, 1) := by decide +kernel
theorem dX10_feed_2 : decode cX10_feed 2 = .ok (.putfield 95, 3) := by decide +kernel
theorem dX10_feed_5 : decode cX10_feed 5 = .ok (.aload_n 0, 1) := by decide +kernel
theorem dX10_feed_6 : decode cX10_feed 6 = .ok (.getfield 98, 3) := by decide +kernel
theorem dX10_feed_9 : decode cX10_feed 9 = .ok (.bipush 20, 2) := by decide +kernel
theorem dX10_feed_11 : decode cX10_feed 11 = .ok (.iadd, 1) := by decide +kernel
theorem dX10_feed_12 : decode cX10_feed 12 = .ok (.sipush 600, 3) := by decide +kernel
theorem dX10_feed_15 : decode cX10_feed 15 = .ok (.if_icmp .le 5, 3) := by decide +kernel
theorem dX10_feed_18 : decode cX10_feed 18 = .ok (.iconst (-1), 1) := by decide +kernel
theorem dX10_feed_19 : decode cX10_feed 19 = .ok (.ireturn, 1) := by decide +kernel
theorem dX10_feed_20 : decode cX10_feed 20 = .ok (.iconst 0, 1) := by decide +kernel
theorem dX10_feed_21 : decode cX10_feed 21 = .ok (.istore 6, 2) := by decide +kernel
theorem dX10_feed_23 : decode cX10_feed 23 = .ok (.iload 6, 2) := by decide +kernel
theorem dX10_feed_25 : decode cX10_feed 25 = .ok (.bipush 20, 2) := by decide +kernel
theorem dX10_feed_27 : decode cX10_feed 27 = .ok (.if_icmp .ge 93, 3) := by decide +kernel
theorem dX10_feed_30 : decode cX10_feed 30 = .ok (.iload 6, 2) := by decide +kernel
theorem dX10_feed_32 : decode cX10_feed 32 = .ok (.iconst 4, 1) := by decide +kernel
theorem dX10_feed_33 : decode cX10_feed 33 = .ok (.if_icmp .ge 7, 3) := by decide +kernel
theorem dX10_feed_36 : decode cX10_feed 36 = .ok (.iload_n 1, 1) := by decide +kernel
theorem dX10_feed_37 : decode cX10_feed 37 = .ok (.goto 39, 3) := by decide +kernel
theorem dX10_feed_40 : decode cX10_feed 40 = .ok (.iload 6, 2) := by decide +kernel
theorem dX10_feed_42 : decode cX10_feed 42 = .ok (.bipush 8, 2) := by decide +kernel
theorem dX10_feed_44 : decode cX10_feed 44 = .ok (.if_icmp .ge 7, 3) := by decide +kernel
theorem dX10_feed_47 : decode cX10_feed 47 = .ok (.iload_n 2, 1) := by decide +kernel
theorem dX10_feed_48 : decode cX10_feed 48 = .ok (.goto 28, 3) := by decide +kernel
theorem dX10_feed_51 : decode cX10_feed 51 = .ok (.iload 6, 2) := by decide +kernel
theorem dX10_feed_53 : decode cX10_feed 53 = .ok (.bipush 12, 2) := by decide +kernel
theorem dX10_feed_55 : decode cX10_feed 55 = .ok (.if_icmp .ge 7, 3) := by decide +kernel
theorem dX10_feed_58 : decode cX10_feed 58 = .ok (.iload_n 3, 1) := by decide +kernel
theorem dX10_feed_59 : decode cX10_feed 59 = .ok (.goto 17, 3) := by decide +kernel
theorem dX10_feed_62 : decode cX10_feed 62 = .ok (.iload 6, 2) := by decide +kernel
theorem dX10_feed_64 : decode cX10_feed 64 = .ok (.bipush 16, 2) := by decide +kernel
theorem dX10_feed_66 : decode cX10_feed 66 = .ok (.if_icmp .ge 8, 3) := by decide +kernel
theorem dX10_feed_69 : decode cX10_feed 69 = .ok (.iload 4, 2) := by decide +kernel
theorem dX10_feed_71 : decode cX10_feed 71 = .ok (.goto 5, 3) := by decide +kernel
theorem dX10_feed_74 : decode cX10_feed 74 = .ok (.iload 5, 2) := by decide +kernel
theorem dX10_feed_76 : decode cX10_feed 76 = .ok (.istore 7, 2) := by decide +kernel
theorem dX10_feed_78 : decode cX10_feed 78 = .ok (.aload_n 0, 1) := by decide +kernel
theorem dX10_feed_79 : decode cX10_feed 79 = .ok (.getfield 13, 3) := by decide +kernel
theorem dX10_feed_82 : decode cX10_feed 82 = .ok (.aload_n 0, 1) := by decide +kernel
theorem dX10_feed_83 : decode cX10_feed 83 = .ok (.getfield 98, 3) := by decide +kernel
theorem dX10_feed_86 : decode cX10_feed 86 = .ok (.iload 7, 2) := by decide +kernel
theorem dX10_feed_88 : decode cX10_feed 88 = .ok (.bipush 24, 2) := by decide +kernel
theorem dX10_feed_90 : decode cX10_feed 90 = .ok (.bipush 8, 2) := by decide +kernel
theorem dX10_feed_92 : decode cX10_feed 92 = .ok (.iload 6, 2) := by decide +kernel
theorem dX10_feed_94 : decode cX10_feed 94 = .ok (.iconst 4, 1) := by decide +kernel
theorem dX10_feed_95 : decode cX10_feed 95 = .ok (.irem, 1) := by decide +kernel
theorem dX10_feed_96 : decode cX10_feed 96 = .ok (.imul, 1) := by decide +kernel
theorem dX10_feed_97 : decode cX10_feed 97 = .ok (.isub, 1) := by decide +kernel
theorem dX10_feed_98 : decode cX10_feed 98 = .ok (.ishr, 1) := by decide +kernel
theorem dX10_feed_99 : decode cX10_feed 99 = .ok (.sipush 255, 3) := by decide +kernel
theorem dX10_feed_102 : decode cX10_feed 102 = .ok (.iand, 1) := by decide +kernel
theorem dX10_feed_103 : decode cX10_feed 103 = .ok (.iastore, 1) := by decide +kernel
theorem dX10_feed_104 : decode cX10_feed 104 = .ok (.aload_n 0, 1) := by decide +kernel
theorem dX10_feed_105 : decode cX10_feed 105 = .ok (.dup, 1) := by decide +kernel
theorem dX10_feed_106 : decode cX10_feed 106 = .ok (.getfield 98, 3) := by decide +kernel
theorem dX10_feed_109 : decode cX10_feed 109 = .ok (.iconst 1, 1) := by decide +kernel
theorem dX10_feed_110 : decode cX10_feed 110 = .ok (.iadd, 1) := by decide +kernel
theorem dX10_feed_111 : decode cX10_feed 111 = .ok (.putfield 98, 3) := by decide +kernel
theorem dX10_feed_114 : decode cX10_feed 114 = .ok (.iinc 6 1, 3) := by decide +kernel
theorem dX10_feed_117 : decode cX10_feed 117 = .ok (.goto (-94), 3) := by decide +kernel
theorem dX10_feed_120 : decode cX10_feed 120 = .ok (.aload_n 0, 1) := by decide +kernel
theorem dX10_feed_121 : decode cX10_feed 121 = .ok (.getfield 98, 3) := by decide +kernel
theorem dX10_feed_124 : decode cX10_feed 124 = .ok (.ireturn, 1) := by decide +kernel
theorem dX10_byteAt_0 : decode cX10_byteAt 0 = .ok (.iload_n 1, 1) := by decide +kernel
theorem dX10_byteAt_1 : decode cX10_byteAt 1 = .ok (.aload_n 0, 1) := by decide +kernel
theorem dX10_byteAt_2 : decode cX10_byteAt 2 = .ok (.getfield 101, 3) := by decide +kernel
theorem dX10_byteAt_5 : decode cX10_byteAt 5 = .ok (.if_icmp .lt 7, 3) := by decide +kernel
theorem dX10_byteAt_8 : decode cX10_byteAt 8 = .ok (.iconst (-1), 1) := by decide +kernel
theorem dX10_byteAt_9 : decode cX10_byteAt 9 = .ok (.goto 9, 3) := by decide +kernel
theorem dX10_byteAt_12 : decode cX10_byteAt 12 = .ok (.aload_n 0, 1) := by decide +kernel
theorem dX10_byteAt_13 : decode cX10_byteAt 13 = .ok (.getfield 13, 3) := by decide +kernel
theorem dX10_byteAt_16 : decode cX10_byteAt 16 = .ok (.iload_n 1, 1) := by decide +kernel
theorem dX10_byteAt_17 : decode cX10_byteAt 17 = .ok (.iaload, 1) := by decide +kernel
theorem dX10_byteAt_18 : decode cX10_byteAt 18 = .ok (.ireturn, 1) := by decide +kernel
theorem dX10_blanks_0 : decode cX10_blanks 0 = .ok (.aload_n 0, 1) := by decide +kernel
theorem dX10_blanks_1 : decode cX10_blanks 1 = .ok (.aload_n 0, 1) := by decide +kernel
theorem dX10_blanks_2 : decode cX10_blanks 2 = .ok (.getfield 104, 3) := by decide +kernel
theorem dX10_blanks_5 : decode cX10_blanks 5 = .ok (.invokevirtual 107, 3) := by decide +kernel
theorem dX10_blanks_8 : decode cX10_blanks 8 = .ok (.bipush 32, 2) := by decide +kernel
theorem dX10_blanks_10 : decode cX10_blanks 10 = .ok (.if_icmp .ne 16, 3) := by decide +kernel
theorem dX10_blanks_13 : decode cX10_blanks 13 = .ok (.aload_n 0, 1) := by decide +kernel
theorem dX10_blanks_14 : decode cX10_blanks 14 = .ok (.dup, 1) := by decide +kernel
theorem dX10_blanks_15 : decode cX10_blanks 15 = .ok (.getfield 104, 3) := by decide +kernel
theorem dX10_blanks_18 : decode cX10_blanks 18 = .ok (.iconst 1, 1) := by decide +kernel
theorem dX10_blanks_19 : decode cX10_blanks 19 = .ok (.iadd, 1) := by decide +kernel
theorem dX10_blanks_20 : decode cX10_blanks 20 = .ok (.putfield 104, 3) := by decide +kernel
theorem dX10_blanks_23 : decode cX10_blanks 23 = .ok (.goto (-23), 3) := by decide +kernel
theorem dX10_blanks_26 : decode cX10_blanks 26 = .ok (.return_, 1) := by decide +kernel
theorem dX10_wrong_0 : decode cX10_wrong 0 = .ok (.aload_n 0, 1) := by decide +kernel
theorem dX10_wrong_1 : decode cX10_wrong 1 = .ok (.getfield 111, 3) := by decide +kernel
theorem dX10_wrong_4 : decode cX10_wrong 4 = .ok (.ifCond .ne 13, 3) := by decide +kernel
theorem dX10_wrong_7 : decode cX10_wrong 7 = .ok (.aload_n 0, 1) := by decide +kernel
theorem dX10_wrong_8 : decode cX10_wrong 8 = .ok (.iload_n 1, 1) := by decide +kernel
theorem dX10_wrong_9 : decode cX10_wrong 9 = .ok (.putfield 111, 3) := by decide +kernel
theorem dX10_wrong_12 : decode cX10_wrong 12 = .ok (.aload_n 0, 1) := by decide +kernel
theorem dX10_wrong_13 : decode cX10_wrong 13 = .ok (.iload_n 2, 1) := by decide +kernel
theorem dX10_wrong_14 : decode cX10_wrong 14 = .ok (.putfield 114, 3) := by decide +kernel
theorem dX10_wrong_17 : decode cX10_wrong 17 = .ok (.return_, 1) := by decide +kernel
theorem dX10_isDigit_0 : decode cX10_isDigit 0 = .ok (.iload_n 0, 1) := by decide +kernel
theorem dX10_isDigit_1 : decode cX10_isDigit 1 = .ok (.bipush 48, 2) := by decide +kernel
theorem dX10_isDigit_3 : decode cX10_isDigit 3 = .ok (.if_icmp .lt 13, 3) := by decide +kernel
theorem dX10_isDigit_6 : decode cX10_isDigit 6 = .ok (.iload_n 0, 1) := by decide +kernel
theorem dX10_isDigit_7 : decode cX10_isDigit 7 = .ok (.bipush 57, 2) := by decide +kernel
theorem dX10_isDigit_9 : decode cX10_isDigit 9 = .ok (.if_icmp .gt 7, 3) := by decide +kernel
theorem dX10_isDigit_12 : decode cX10_isDigit 12 = .ok (.iconst 1, 1) := by decide +kernel
theorem dX10_isDigit_13 : decode cX10_isDigit 13 = .ok (.goto 4, 3) := by decide +kernel
theorem dX10_isDigit_16 : decode cX10_isDigit 16 = .ok (.iconst 0, 1) := by decide +kernel
theorem dX10_isDigit_17 : decode cX10_isDigit 17 = .ok (.ireturn, 1) := by decide +kernel
theorem dX10_isSmall_0 : decode cX10_isSmall 0 = .ok (.iload_n 0, 1) := by decide +kernel
theorem dX10_isSmall_1 : decode cX10_isSmall 1 = .ok (.bipush 97, 2) := by decide +kernel
theorem dX10_isSmall_3 : decode cX10_isSmall 3 = .ok (.if_icmp .lt 13, 3) := by decide +kernel
theorem dX10_isSmall_6 : decode cX10_isSmall 6 = .ok (.iload_n 0, 1) := by decide +kernel
theorem dX10_isSmall_7 : decode cX10_isSmall 7 = .ok (.bipush 122, 2) := by decide +kernel
theorem dX10_isSmall_9 : decode cX10_isSmall 9 = .ok (.if_icmp .gt 7, 3) := by decide +kernel
theorem dX10_isSmall_12 : decode cX10_isSmall 12 = .ok (.iconst 1, 1) := by decide +kernel
theorem dX10_isSmall_13 : decode cX10_isSmall 13 = .ok (.goto 4, 3) := by decide +kernel
theorem dX10_isSmall_16 : decode cX10_isSmall 16 = .ok (.iconst 0, 1) := by decide +kernel
theorem dX10_isSmall_17 : decode cX10_isSmall 17 = .ok (.ireturn, 1) := by decide +kernel
theorem dX10_number_0 : decode cX10_number 0 = .ok (.aload_n 0, 1) := by decide +kernel
theorem dX10_number_1 : decode cX10_number 1 = .ok (.getfield 111, 3) := by decide +kernel
theorem dX10_number_4 : decode cX10_number 4 = .ok (.ifCond .eq 5, 3) := by decide +kernel
theorem dX10_number_7 : decode cX10_number 7 = .ok (.iconst 0, 1) := by decide +kernel
theorem dX10_number_8 : decode cX10_number 8 = .ok (.ireturn, 1) := by decide +kernel
theorem dX10_number_9 : decode cX10_number 9 = .ok (.aload_n 0, 1) := by decide +kernel
