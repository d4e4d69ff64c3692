theorem dX5_init_0 : decode cX5_init 0 = .ok (.aload_n 0, 1) := by decide +kernel
theorem dX5_init_1 : decode cX5_init 1 = .ok (.invokespecial 1, 3) := by decide +kernel
theorem dX5_init_4 : decode cX5_init 4 = .ok (.aload_n 0, 1) := by decide +kernel
theorem dX5_init_5 : decode cX5_init 5 = .ok (.iconst 4, 1) := by decide +kernel
theorem dX5_init_6 : decode cX5_init 6 = .ok (.newarray .int, 2) := by decide +kernel
theorem dX5_init_8 : decode cX5_init 8 = .ok (.putfield 7, 3) := by decide +kernel
theorem dX5_init_11 : decode cX5_init 11 = .ok (.aload_n 0, 1) := by decide +kernel
theorem dX5_init_12 : decode cX5_init 12 = .ok (.iconst 4, 1) := by decide +kernel
theorem dX5_init_13 : decode cX5_init 13 = .ok (.newarray .int, 2) := by decide +kernel
theorem dX5_init_15 : decode cX5_init 15 = .ok (.putfield 13, 3) := by decide +kernel
theorem dX5_init_18 : decode cX5_init 18 = .ok (.aload_n 0, 1) := by decide +kernel
theorem dX5_init_19 : decode cX5_init 19 = .ok (.iconst 4, 1) := by decide +kernel
theorem dX5_init_20 : decode cX5_init 20 = .ok (.newarray .int, 2) := by decide +kernel
theorem dX5_init_22 : decode cX5_init 22 = .ok (.putfield 16, 3) := by decide +kernel
theorem dX5_init_25 : decode cX5_init 25 = .ok (.aload_n 0, 1) := by decide +kernel
theorem dX5_init_26 : decode cX5_init 26 = .ok (.iconst 4, 1) := by decide +kernel
theorem dX5_init_27 : decode cX5_init 27 = .ok (.newarray .int, 2) := by decide +kernel
theorem dX5_init_29 : decode cX5_init 29 = .ok (.putfield 19, 3) := by decide +kernel
theorem dX5_init_32 : decode cX5_init 32 = .ok (.aload_n 0, 1) := by decide +kernel
theorem dX5_init_33 : decode cX5_init 33 = .ok (.iconst 4, 1) := by decide +kernel
theorem dX5_init_34 : decode cX5_init 34 = .ok (.newarray .int, 2) := by decide +kernel
theorem dX5_init_36 : decode cX5_init 36 = .ok (.putfield 22, 3) := by decide +kernel
theorem dX5_init_39 : decode cX5_init 39 = .ok (.aload_n 0, 1) := by decide +kernel
theorem dX5_init_40 : decode cX5_init 40 = .ok (.iconst 4, 1) := by decide +kernel
theorem dX5_init_41 : decode cX5_init 41 = .ok (.newarray .int, 2) := by decide +kernel
theorem dX5_init_43 : decode cX5_init 43 = .ok (.putfield 25, 3) := by decide +kernel
theorem dX5_init_46 : decode cX5_init 46 = .ok (.aload_n 0, 1) := by decide +kernel
theorem dX5_init_47 : decode cX5_init 47 = .ok (.iconst 3, 1) := by decide +kernel
theorem dX5_init_48 : decode cX5_init 48 = .ok (.newarray .int, 2) := by decide +kernel
theorem dX5_init_50 : decode cX5_init 50 = .ok (.putfield 28, 3) := by decide +kernel
theorem dX5_init_53 : decode cX5_init 53 = .ok (.aload_n 0, 1) := by decide +kernel
theorem dX5_init_54 : decode cX5_init 54 = .ok (.iconst 4, 1) := by decide +kernel
theorem dX5_init_55 : decode cX5_init 55 = .ok (.newarray .int, 2) := by decide +kernel
theorem dX5_init_57 : decode cX5_init 57 = .ok (.putfield 31, 3) := by decide +kernel
theorem dX5_init_60 : decode cX5_init 60 = .ok (.aload_n 0, 1) := by decide +kernel
theorem dX5_init_61 : decode cX5_init 61 = .ok (.iconst 4, 1) := by decide +kernel
theorem dX5_init_62 : decode cX5_init 62 = .ok (.newarray .int, 2) := by decide +kernel
theorem dX5_init_64 : decode cX5_init 64 = .ok (.putfield 34, 3) := by decide +kernel
theorem dX5_init_67 : decode cX5_init 67 = .ok (.aload_n 0, 1) := by decide +kernel
theorem dX5_init_68 : decode cX5_init 68 = .ok (.iconst 4, 1) := by decide +kernel
theorem dX5_init_69 : decode cX5_init 69 = .ok (.newarray .int, 2) := by decide +kernel
theorem dX5_init_71 : decode cX5_init 71 = .ok (.putfield 37, 3) := by decide +kernel
theorem dX5_init_74 : decode cX5_init 74 = .ok (.aload_n 0, 1) := by decide +kernel
theorem dX5_init_75 : decode cX5_init 75 = .ok (.iconst 4, 1) := by decide +kernel
theorem dX5_init_76 : decode cX5_init 76 = .ok (.newarray .int, 2) := by decide +kernel
theorem dX5_init_78 : decode cX5_init 78 = .ok (.putfield 40, 3) := by decide +kernel
theorem dX5_init_81 : decode cX5_init 81 = .ok (.aload_n 0, 1) := by decide +kernel
theorem dX5_init_82 : decode cX5_init 82 = .ok (.iconst 4, 1) := by decide +kernel
theorem dX5_init_83 : decode cX5_init 83 = .ok (.newarray .int, 2) := by decide +kernel
theorem dX5_init_85 : decode cX5_init 85 = .ok (.putfield 43, 3) := by decide +kernel
theorem dX5_init_88 : decode cX5_init 88 = .ok (.aload_n 0, 1) := by decide +kernel
theorem dX5_init_89 : decode cX5_init 89 = .ok (.bipush 8, 2) := by decide +kernel
theorem dX5_init_91 : decode cX5_init 91 = .ok (.newarray .int, 2) := by decide +kernel
theorem dX5_init_93 : decode cX5_init 93 = .ok (.putfield 46, 3) := by decide +kernel
theorem dX5_init_96 : decode cX5_init 96 = .ok (.aload_n 0, 1) := by decide +kernel
theorem dX5_init_97 : decode cX5_init 97 = .ok (.iconst 4, 1) := by decide +kernel
theorem dX5_init_98 : decode cX5_init 98 = .ok (.newarray .int, 2) := by decide +kernel
theorem dX5_init_100 : decode cX5_init 100 = .ok (.putfield 49, 3) := by decide +kernel
theorem dX5_init_103 : decode cX5_init 103 = .ok (.aload_n 0, 1) := by decide +kernel
theorem dX5_init_104 : decode cX5_init 104 = .ok (.iconst 4, 1) := by decide +kernel
theorem dX5_init_105 : decode cX5_init 105 = .ok (.newarray .int, 2) := by decide +kernel
theorem dX5_init_107 : decode cX5_init 107 = .ok (.putfield 52, 3) := by decide +kernel
theorem dX5_init_110 : decode cX5_init 110 = .ok (.aload_n 0, 1) := by decide +kernel
theorem dX5_init_111 : decode cX5_init 111 = .ok (.bipush 8, 2) := by decide +kernel
theorem dX5_init_113 : decode cX5_init 113 = .ok (.newarray .int, 2) := by decide +kernel
theorem dX5_init_115 : decode cX5_init 115 = .ok (.putfield 55, 3) := by decide +kernel
theorem dX5_init_118 : decode cX5_init 118 = .ok (.aload_n 0, 1) := by decide +kernel
theorem dX5_init_119 : decode cX5_init 119 = .ok (.bipush 8, 2) := by decide +kernel
theorem dX5_init_121 : decode cX5_init 121 = .ok (.newarray .int, 2) := by decide +kernel
theorem dX5_init_123 : decode cX5_init 123 = .ok (.putfield 58, 3) := by decide +kernel
theorem dX5_init_126 : decode cX5_init 126 = .ok (.aload_n 0, 1) := by decide +kernel
theorem dX5_init_127 : decode cX5_init 127 = .ok (.iconst 4, 1) := by decide +kernel
theorem dX5_init_128 : decode cX5_init 128 = .ok (.newarray .int, 2) := by decide +kernel
theorem dX5_init_130 : decode cX5_init 130 = .ok (.putfield 61, 3) := by decide +kernel
theorem dX5_init_133 : decode cX5_init 133 = .ok (.aload_n 0, 1) := by decide +kernel
theorem dX5_init_134 : decode cX5_init 134 = .ok (.iconst 4, 1) := by decide +kernel
theorem dX5_init_135 : decode cX5_init 135 = .ok (.newarray .int, 2) := by decide +kernel
theorem dX5_init_137 : decode cX5_init 137 = .ok (.putfield 64, 3) := by decide +kernel
theorem dX5_init_140 : decode cX5_init 140 = .ok (.aload_n 0, 1) := by decide +kernel
theorem dX5_init_141 : decode cX5_init 141 = .ok (.sipush 240, 3) := by decide +kernel
theorem dX5_init_144 : decode cX5_init 144 = .ok (.newarray .int, 2) := by decide +kernel
theorem dX5_init_146 : decode cX5_init 146 = .ok (.putfield 67, 3) := by decide +kernel
theorem dX5_init_149 : decode cX5_init 149 = .ok (.aload_n 0, 1) := by decide +kernel
theorem dX5_init_150 : decode cX5_init 150 = .ok (.bipush 60, 2) := by decide +kernel
theorem dX5_init_152 : decode cX5_init 152 = .ok (.newarray .int, 2) := by decide +kernel
theorem dX5_init_154 : decode cX5_init 154 = .ok (.putfield 70, 3) := by decide +kernel
theorem dX5_init_157 : decode cX5_init 157 = .ok (.iconst 0, 1) := by decide +kernel
theorem dX5_init_158 : decode cX5_init 158 = .ok (.istore_n 1, 1) := by decide +kernel
theorem dX5_init_159 : decode cX5_init 159 = .ok (.iload_n 1, 1) := by decide +kernel
theorem dX5_init_160 : decode cX5_init 160 = .ok (.iconst 4, 1) := by decide +kernel
theorem dX5_init_161 : decode cX5_init 161 = .ok (.if_icmp .ge 16, 3) := by decide +kernel
theorem dX5_init_164 : decode cX5_init 164 = .ok (.aload_n 0, 1) := by decide +kernel
theorem dX5_init_165 : decode cX5_init 165 = .ok (.getfield 61, 3) := by decide +kernel
theorem dX5_init_168 : decode cX5_init 168 = .ok (.iload_n 1, 1) := by decide +kernel
theorem dX5_init_169 : decode cX5_init 169 = .ok (.iconst (-1), 1) := by decide +kernel
theorem dX5_init_170 : decode cX5_init 170 = .ok (.iastore, 1) := by decide +kernel
theorem dX5_init_171 : decode cX5_init 171 = .ok (.iinc 1 1, 3) := by decide +kernel
theorem dX5_init_174 : decode cX5_init 174 = .ok (.goto (-15), 3) := by decide +kernel
theorem dX5_init_177 : decode cX5_init 177 = .ok (.aload_n 0, 1) := by decide +kernel
theorem dX5_init_178 : decode cX5_init 178 = .ok (.bipush (-9), 2) := by decide +kernel
theorem dX5_init_180 : decode cX5_init 180 = .ok (.putfield 73, 3) := by decide +kernel
theorem dX5_init_183 : decode cX5_init 183 = .ok (.return_, 1) := by decide +kernel
theorem dX5_in_0 : decode cX5_in 0 = .ok (.lload_n 0, 1) := by decide +kernel
theorem dX5_in_1 : decode cX5_in 1 = .ok (.lload_n 2, 1) := by decide +kernel
theorem dX5_in_2 : decode cX5_in 2 = .ok (.lcmp, 1) := by decide +kernel
theorem dX5_in_3 : decode cX5_in 3 = .ok (.ifCond .lt 14, 3) := by decide +kernel
theorem dX5_in_6 : decode cX5_in 6 = .ok (.lload_n 0, 1) := by decide +kernel
theorem dX5_in_7 : decode cX5_in 7 = .ok (.lload 4, 2) := by decide +kernel
theorem dX5_in_9 : decode cX5_in 9 = .ok (.lcmp, 1) := by decide +kernel
theorem dX5_in_10 : decode cX5_in 10 = .ok (.ifCond .gt 7, 3) := by decide +kernel
theorem dX5_in_13 : decode cX5_in 13 = .ok (.iconst 1, 1) := by decide +kernel
theorem dX5_in_14 : decode cX5_in 14 = .ok (.goto 4, 3) := by decide +kernel
theorem dX5_in_17 : decode cX5_in 17 = .ok (.iconst 0, 1) := by decide +kernel
theorem dX5_in_18 : decode cX5_in 18 = .ok (.ireturn, 1) := by decide +kernel
theorem dX5_lost_0 : decode cX5_lost 0 = .ok (.ldc2_w 77, 3) := by decide +kernel
theorem dX5_lost_3 : decode cX5_lost 3 = .ok (.lreturn, 1) := by decide +kernel
theorem dX5_isIn_0 : decode cX5_isIn 0 = .ok (.iload_n 0, 1) := by decide +kernel
theorem dX5_isIn_1 : decode cX5_isIn 1 = .ok (.iload_n 1, 1) := by decide +kernel
theorem dX5_isIn_2 : decode cX5_isIn 2 = .ok (.ishr, 1) := by decide +kernel
theorem dX5_isIn_3 : decode cX5_isIn 3 = .ok (.iconst 1, 1) := by decide +kernel
theorem dX5_isIn_4 : decode cX5_isIn 4 = .ok (.iand, 1) := by decide +kernel
theorem dX5_isIn_5 : decode cX5_isIn 5 = .ok (.iconst 1, 1) := by decide +kernel
theorem dX5_isIn_6 : decode cX5_isIn 6 = .ok (.if_icmp .ne 7, 3) := by decide +kernel
theorem dX5_isIn_9 : decode cX5_isIn 9 = .ok (.iconst 1, 1) := by decide +kernel
theorem dX5_isIn_10 : decode cX5_isIn 10 = .ok (.goto 4, 3) := by decide +kernel
theorem dX5_isIn_13 : decode cX5_isIn 13 = .ok (.iconst 0, 1) := by decide +kernel
theorem dX5_isIn_14 : decode cX5_isIn 14 = .ok (.ireturn, 1) := by decide +kernel
theorem dX5_told_0 : decode cX5_told 0 = .ok (.lload_n 0, 1) := by decide +kernel
theorem dX5_told_1 : decode cX5_told 1 = .ok (.lstore 5, 2) := by decide +kernel
theorem dX5_told_3 : decode cX5_told 3 = .ok (.lload_n 2, 1) := by decide +kernel
theorem dX5_told_4 : decode cX5_told 4 = .ok (.lstore 7, 2) := by decide +kernel
theorem dX5_told_6 : decode cX5_told 6 = .ok (.lload 7, 2) := by decide +kernel
theorem dX5_told_8 : decode cX5_told 8 = .ok (.lconst 0, 1) := by decide +kernel
theorem dX5_told_9 : decode cX5_told 9 = .ok (.lcmp, 1) := by decide +kernel
theorem dX5_told_10 : decode cX5_told 10 = .ok (.ifCond .eq 21, 3) := by decide +kernel
theorem dX5_told_13 : decode cX5_told 13 = .ok (.lload 5, 2) := by decide +kernel
theorem dX5_told_15 : decode cX5_told 15 = .ok (.lload 7, 2) := by decide +kernel
theorem dX5_told_17 : decode cX5_told 17 = .ok (.lrem, 1) := by decide +kernel
theorem dX5_told_18 : decode cX5_told 18 = .ok (.lstore 9, 2) := by decide +kernel
theorem dX5_told_20 : decode cX5_told 20 = .ok (.lload 7, 2) := by decide +kernel
theorem dX5_told_22 : decode cX5_told 22 = .ok (.lstore 5, 2) := by decide +kernel
theorem dX5_told_24 : decode cX5_told 24 = .ok (.lload 9, 2) := by decide +kernel
theorem dX5_told_26 : decode cX5_told 26 = .ok (.lstore 7, 2) := by decide +kernel
theorem dX5_told_28 : decode cX5_told 28 = .ok (.goto (-22), 3) := by decide +kernel
theorem dX5_told_31 : decode cX5_told 31 = .ok (.iload 4, 2) := by decide +kernel
theorem dX5_told_33 : decode cX5_told 33 = .ok (.ifCond .ne 7, 3) := by decide +kernel
theorem dX5_told_36 : decode cX5_told 36 = .ok (.lload_n 0, 1) := by decide +kernel
theorem dX5_told_37 : decode cX5_told 37 = .ok (.goto 4, 3) := by decide +kernel
theorem dX5_told_40 : decode cX5_told 40 = .ok (.lload_n 2, 1) := by decide +kernel
theorem dX5_told_41 : decode cX5_told 41 = .ok (.lload 5, 2) := by decide +kernel
theorem dX5_told_43 : decode cX5_told 43 = .ok (.ldiv, 1) := by decide +kernel
theorem dX5_told_44 : decode cX5_told 44 = .ok (.lreturn, 1) := by decide +kernel
theorem dX5_tens_0 : decode cX5_tens 0 = .ok (.lconst 1, 1) := by decide +kernel
theorem dX5_tens_1 : decode cX5_tens 1 = .ok (.lstore_n 1, 1) := by decide +kernel
theorem dX5_tens_2 : decode cX5_tens 2 = .ok (.iconst 0, 1) := by decide +kernel
theorem dX5_tens_3 : decode cX5_tens 3 = .ok (.istore_n 3, 1) := by decide +kernel
theorem dX5_tens_4 : decode cX5_tens 4 = .ok (.iload_n 3, 1) := by decide +kernel
theorem dX5_tens_5 : decode cX5_tens 5 = .ok (.iload_n 0, 1) := by decide +kernel
theorem dX5_tens_6 : decode cX5_tens 6 = .ok (.if_icmp .ge 15, 3) := by decide +kernel
theorem dX5_tens_9 : decode cX5_tens 9 = .ok (.lload_n 1, 1) := by decide +kernel
theorem dX5_tens_10 : decode cX5_tens 10 = .ok (.ldc2_w 79, 3) := by decide +kernel
theorem dX5_tens_13 : decode cX5_tens 13 = .ok (.lmul, 1) := by decide +kernel
theorem dX5_tens_14 : decode cX5_tens 14 = .ok (.lstore_n 1, 1) := by decide +kernel
theorem dX5_tens_15 : decode cX5_tens 15 = .ok (.iinc 3 1, 3) := by decide +kernel
theorem dX5_tens_18 : decode cX5_tens 18 = .ok (.goto (-14), 3) := by decide +kernel
theorem dX5_tens_21 : decode cX5_tens 21 = .ok (.lload_n 1, 1) := by decide +kernel
theorem dX5_tens_22 : decode cX5_tens 22 = .ok (.lreturn, 1) := by decide +kernel
theorem dX5_refused_0 : decode cX5_refused 0 = .ok (.aload_n 0, 1) := by decide +kernel
theorem dX5_refused_1 : decode cX5_refused 1 = .ok (.iconst 0, 1) := by decide +kernel
theorem dX5_refused_2 : decode cX5_refused 2 = .ok (.putfield 81, 3) := by decide +kernel
theorem dX5_refused_5 : decode cX5_refused 5 = .ok (.iload_n 1, 1) := by decide +kernel
theorem dX5_refused_6 : decode cX5_refused 6 = .ok (.ireturn, 1) := by decide +kernel
theorem dX5_failed_0 : decode cX5_failed 0 = .ok (.aload_n 0, 1) := by decide +kernel
theorem dX5_failed_1 : decode cX5_failed 1 = .ok (.iload_n 1, 1) := by decide +kernel
theorem dX5_failed_2 : decode cX5_failed 2 = .ok (.putfield 81, 3) := by decide +kernel
theorem dX5_failed_5 : decode cX5_failed 5 = .ok (.bipush (-10), 2) := by decide +kernel
theorem dX5_failed_7 : decode cX5_failed 7 = .ok (.iload_n 1, 1) := by decide +kernel
theorem dX5_failed_8 : decode cX5_failed 8 = .ok (.isub, 1) := by decide +kernel
theorem dX5_failed_9 : decode cX5_failed 9 = .ok (.ireturn, 1) := by decide +kernel
theorem dX5_failedLong_0 : decode cX5_failedLong 0 = .ok (.aload_n 0, 1) := by decide +kernel
theorem dX5_failedLong_1 : decode cX5_failedLong 1 = .ok (.iload_n 1, 1) := by decide +kernel
theorem dX5_failedLong_2 : decode cX5_failedLong 2 = .ok (.putfield 81, 3) := by decide +kernel
theorem dX5_failedLong_5 : decode cX5_failedLong 5 = .ok (.invokestatic 84, 3) := by decide +kernel
theorem dX5_failedLong_8 : decode cX5_failedLong 8 = .ok (.lreturn, 1) := by decide +kernel
theorem dX5_noPost_0 : decode cX5_noPost 0 = .ok (.iload_n 1, 1) := by decide +kernel
theorem dX5_noPost_1 : decode cX5_noPost 1 = .ok (.i2l, 1) := by decide +kernel
theorem dX5_noPost_2 : decode cX5_noPost 2 = .ok (.lconst 0, 1) := by decide +kernel
theorem dX5_noPost_3 : decode cX5_noPost 3 = .ok (.aload_n 0, 1) := by decide +kernel
theorem dX5_noPost_4 : decode cX5_noPost 4 = .ok (.getfield 88, 3) := by decide +kernel
theorem dX5_noPost_7 : decode cX5_noPost 7 = .ok (.i2l, 1) := by decide +kernel
theorem dX5_noPost_8 : decode cX5_noPost 8 = .ok (.lconst 1, 1) := by decide +kernel
theorem dX5_noPost_9 : decode cX5_noPost 9 = .ok (.lsub, 1) := by decide +kernel
theorem dX5_noPost_10 : decode cX5_noPost 10 = .ok (.invokestatic 91, 3) := by decide +kernel
theorem dX5_noPost_13 : decode cX5_noPost 13 = .ok (.ifCond .ne 7, 3) := by decide +kernel
theorem dX5_noPost_16 : decode cX5_noPost 16 = .ok (.iconst 1, 1) := by decide +kernel
theorem dX5_noPost_17 : decode cX5_noPost 17 = .ok (.goto 4, 3) := by decide +kernel
theorem dX5_noPost_20 : decode cX5_noPost 20 = .ok (.iconst 0, 1) := by decide +kernel
theorem dX5_noPost_21 : decode cX5_noPost 21 = .ok (.ireturn, 1) := by decide +kernel
theorem dX5_noSilence_0 : decode cX5_noSilence 0 = .ok (.iload_n 1, 1) := by decide +kernel
theorem dX5_noSilence_1 : decode cX5_noSilence 1 = .ok (.i2l, 1) := by decide +kernel
theorem dX5_noSilence_2 : decode cX5_noSilence 2 = .ok (.lconst 0, 1) := by decide +kernel
theorem dX5_noSilence_3 : decode cX5_noSilence 3 = .ok (.aload_n 0, 1) := by decide +kernel
theorem dX5_noSilence_4 : decode cX5_noSilence 4 = .ok (.getfield 95, 3) := by decide +kernel
theorem dX5_noSilence_7 : decode cX5_noSilence 7 = .ok (.i2l, 1) := by decide +kernel
theorem dX5_noSilence_8 : decode cX5_noSilence 8 = .ok (.lconst 1, 1) := by decide +kernel
theorem dX5_noSilence_9 : decode cX5_noSilence 9 = .ok (.lsub, 1) := by decide +kernel
theorem dX5_noSilence_10 : decode cX5_noSilence 10 = .ok (.invokestatic 91, 3) := by decide +kernel
theorem dX5_noSilence_13 : decode cX5_noSilence 13 = .ok (.ifCond .ne 7, 3) := by decide +kernel
theorem dX5_noSilence_16 : decode cX5_noSilence 16 = .ok (.iconst 1, 1) := by decide +kernel
theorem dX5_noSilence_17 : decode cX5_noSilence 17 = .ok (.goto 4, 3) := by decide +kernel
theorem dX5_noSilence_20 : decode cX5_noSilence 20 = .ok (.iconst 0, 1) := by decide +kernel
theorem dX5_noSilence_21 : decode cX5_noSilence 21 = .ok (.ireturn, 1) := by decide +kernel
theorem dX5_noCarrier_0 : decode cX5_noCarrier 0 = .ok (.iload_n 0, 1) := by decide +kernel
theorem dX5_noCarrier_1 : decode cX5_noCarrier 1 = .ok (.i2l, 1) := by decide +kernel
theorem dX5_noCarrier_2 : decode cX5_noCarrier 2 = .ok (.lconst 0, 1) := by decide +kernel
theorem dX5_noCarrier_3 : decode cX5_noCarrier 3 = .ok (.ldc2_w 98, 3) := by decide +kernel
theorem dX5_noCarrier_6 : decode cX5_noCarrier 6 = .ok (.invokestatic 91, 3) := by decide +kernel
theorem dX5_noCarrier_9 : decode cX5_noCarrier 9 = .ok (.ifCond .ne 7, 3) := by decide +kernel
theorem dX5_noCarrier_12 : decode cX5_noCarrier 12 = .ok (.iconst 1, 1) := by decide +kernel
theorem dX5_noCarrier_13 : decode cX5_noCarrier 13 = .ok (.goto 4, 3) := by decide +kernel
theorem dX5_noCarrier_16 : decode cX5_noCarrier 16 = .ok (.iconst 0, 1) := by decide +kernel
theorem dX5_noCarrier_17 : decode cX5_noCarrier 17 = .ok (.ireturn, 1) := by decide +kernel
theorem dX5_all_0 : decode cX5_all 0 = .ok (.iconst 1, 1) := by decide +kernel
theorem dX5_all_1 : decode cX5_all 1 = .ok (.aload_n 0, 1) := by decide +kernel
theorem dX5_all_2 : decode cX5_all 2 = .ok (.getfield 95, 3) := by decide +kernel
theorem dX5_all_5 : decode cX5_all 5 = .ok (.ishl, 1) := by decide +kernel
theorem dX5_all_6 : decode cX5_all 6 = .ok (.iconst 1, 1) := by decide +kernel
theorem dX5_all_7 : decode cX5_all 7 = .ok (.isub, 1) := by decide +kernel
theorem dX5_all_8 : decode cX5_all 8 = .ok (.ireturn, 1) := by decide +kernel
theorem dX5_codeAt_0 : decode cX5_codeAt 0 = .ok (.aload_n 0, 1) := by decide +kernel
theorem dX5_codeAt_1 : decode cX5_codeAt 1 = .ok (.getfield 100, 3) := by decide +kernel
theorem dX5_codeAt_4 : decode cX5_codeAt 4 = .ok (.iload_n 2, 1) := by decide +kernel
theorem dX5_codeAt_5 : decode cX5_codeAt 5 = .ok (.if_icmp .ge 17, 3) := by decide +kernel
theorem dX5_codeAt_8 : decode cX5_codeAt 8 = .ok (.aload_n 0, 1) := by decide +kernel
theorem dX5_codeAt_9 : decode cX5_codeAt 9 = .ok (.getfield 67, 3) := by decide +kernel
theorem dX5_codeAt_12 : decode cX5_codeAt 12 = .ok (.iload_n 1, 1) := by decide +kernel
theorem dX5_codeAt_13 : decode cX5_codeAt 13 = .ok (.aload_n 0, 1) := by decide +kernel
theorem dX5_codeAt_14 : decode cX5_codeAt 14 = .ok (.getfield 100, 3) := by decide +kernel
theorem dX5_codeAt_17 : decode cX5_codeAt 17 = .ok (.iadd, 1) := by decide +kernel
theorem dX5_codeAt_18 : decode cX5_codeAt 18 = .ok (.iaload, 1) := by decide +kernel
theorem dX5_codeAt_19 : decode cX5_codeAt 19 = .ok (.goto 5, 3) := by decide +kernel
theorem dX5_codeAt_22 : decode cX5_codeAt 22 = .ok (.bipush (-9), 2) := by decide +kernel
theorem dX5_codeAt_24 : decode cX5_codeAt 24 = .ok (.ireturn, 1) := by decide +kernel
theorem dX5_figure_0 : decode cX5_figure 0 = .ok (.aload_n 0, 1) := by decide +kernel
theorem dX5_figure_1 : decode cX5_figure 1 = .ok (.iload_n 1, 1) := by decide +kernel
theorem dX5_figure_2 : decode cX5_figure 2 = .ok (.iload_n 2, 1) := by decide +kernel
theorem dX5_figure_3 : decode cX5_figure 3 = .ok (.invokevirtual 103, 3) := by decide +kernel
theorem dX5_figure_6 : decode cX5_figure 6 = .ok (.bipush 48, 2) := by decide +kernel
theorem dX5_figure_8 : decode cX5_figure 8 = .ok (.isub, 1) := by decide +kernel
theorem dX5_figure_9 : decode cX5_figure 9 = .ok (.istore 4, 2) := by decide +kernel
theorem dX5_figure_11 : decode cX5_figure 11 = .ok (.iload 4, 2) := by decide +kernel
theorem dX5_figure_13 : decode cX5_figure 13 = .ok (.i2l, 1) := by decide +kernel
theorem dX5_figure_14 : decode cX5_figure 14 = .ok (.iload_n 3, 1) := by decide +kernel
theorem dX5_figure_15 : decode cX5_figure 15 = .ok (.i2l, 1) := by decide +kernel
theorem dX5_figure_16 : decode cX5_figure 16 = .ok (.ldc2_w 107, 3) := by decide +kernel
theorem dX5_figure_19 : decode cX5_figure 19 = .ok (.invokestatic 91, 3) := by decide +kernel
theorem dX5_figure_22 : decode cX5_figure 22 = .ok (.istore 5, 2) := by decide +kernel
theorem dX5_figure_24 : decode cX5_figure 24 = .ok (.aload_n 0, 1) := by decide +kernel
theorem dX5_figure_25 : decode cX5_figure 25 = .ok (.dup, 1) := by decide +kernel
theorem dX5_figure_26 : decode cX5_figure 26 = .ok (.getfield 100, 3) := by decide +kernel
theorem dX5_figure_29 : decode cX5_figure 29 = .ok (.iload 5, 2) := by decide +kernel
theorem dX5_figure_31 : decode cX5_figure 31 = .ok (.ifCond .eq 7, 3) := by decide +kernel
theorem dX5_figure_34 : decode cX5_figure 34 = .ok (.iconst 1, 1) := by decide +kernel
theorem dX5_figure_35 : decode cX5_figure 35 = .ok (.goto 4, 3) := by decide +kernel
theorem dX5_figure_38 : decode cX5_figure 38 = .ok (.iconst 0, 1) := by decide +kernel
theorem dX5_figure_39 : decode cX5_figure 39 = .ok (.iadd, 1) := by decide +kernel
theorem dX5_figure_40 : decode cX5_figure 40 = .ok (.putfield 100, 3) := by decide +kernel
theorem dX5_figure_43 : decode cX5_figure 43 = .ok (.iload 5, 2) := by decide +kernel
theorem dX5_figure_45 : decode cX5_figure 45 = .ok (.ifCond .eq 8, 3) := by decide +kernel
theorem dX5_figure_48 : decode cX5_figure 48 = .ok (.iload 4, 2) := by decide +kernel
theorem dX5_figure_50 : decode cX5_figure 50 = .ok (.goto 5, 3) := by decide +kernel
theorem dX5_figure_53 : decode cX5_figure 53 = .ok (.bipush (-9), 2) := by decide +kernel
theorem dX5_figure_55 : decode cX5_figure 55 = .ok (.ireturn, 1) := by decide +kernel
theorem dX5_readsPost_0 : decode cX5_readsPost 0 = .ok (.aload_n 0, 1) := by decide +kernel
theorem dX5_readsPost_1 : decode cX5_readsPost 1 = .ok (.getfield 109, 3) := by decide +kernel
theorem dX5_readsPost_4 : decode cX5_readsPost 4 = .ok (.iconst 4, 1) := by decide +kernel
theorem dX5_readsPost_5 : decode cX5_readsPost 5 = .ok (.if_icmp .eq 14, 3) := by decide +kernel
theorem dX5_readsPost_8 : decode cX5_readsPost 8 = .ok (.aload_n 0, 1) := by decide +kernel
theorem dX5_readsPost_9 : decode cX5_readsPost 9 = .ok (.iload_n 1, 1) := by decide +kernel
theorem dX5_readsPost_10 : decode cX5_readsPost 10 = .ok (.iload_n 2, 1) := by decide +kernel
theorem dX5_readsPost_11 : decode cX5_readsPost 11 = .ok (.invokevirtual 103, 3) := by decide +kernel
theorem dX5_readsPost_14 : decode cX5_readsPost 14 = .ok (.bipush 59, 2) := by decide +kernel
theorem dX5_readsPost_16 : decode cX5_readsPost 16 = .ok (.if_icmp .eq 5, 3) := by decide +kernel
theorem dX5_readsPost_19 : decode cX5_readsPost 19 = .ok (.iconst 0, 1) := by decide +kernel
theorem dX5_readsPost_20 : decode cX5_readsPost 20 = .ok (.ireturn, 1) := by decide +kernel
theorem dX5_readsPost_21 : decode cX5_readsPost 21 = .ok (.aload_n 0, 1) := by decide +kernel
theorem dX5_readsPost_22 : decode cX5_readsPost 22 = .ok (.dup, 1) := by decide +kernel
theorem dX5_readsPost_23 : decode cX5_readsPost 23 = .ok (.getfield 100, 3) := by decide +kernel
theorem dX5_readsPost_26 : decode cX5_readsPost 26 = .ok (.iconst 1, 1) := by decide +kernel
theorem dX5_readsPost_27 : decode cX5_readsPost 27 = .ok (.iadd, 1) := by decide +kernel
theorem dX5_readsPost_28 : decode cX5_readsPost 28 = .ok (.putfield 100, 3) := by decide +kernel
theorem dX5_readsPost_31 : decode cX5_readsPost 31 = .ok (.aload_n 0, 1) := by decide +kernel
theorem dX5_readsPost_32 : decode cX5_readsPost 32 = .ok (.iload_n 1, 1) := by decide +kernel
theorem dX5_readsPost_33 : decode cX5_readsPost 33 = .ok (.iload_n 2, 1) := by decide +kernel
theorem dX5_readsPost_34 : decode cX5_readsPost 34 = .ok (.iconst 1, 1) := by decide +kernel
theorem dX5_readsPost_35 : decode cX5_readsPost 35 = .ok (.invokevirtual 112, 3) := by decide +kernel
theorem dX5_readsPost_38 : decode cX5_readsPost 38 = .ok (.istore_n 3, 1) := by decide +kernel
theorem dX5_readsPost_39 : decode cX5_readsPost 39 = .ok (.iload_n 3, 1) := by decide +kernel
theorem dX5_readsPost_40 : decode cX5_readsPost 40 = .ok (.ifCond .ge 8, 3) := by decide +kernel
theorem dX5_readsPost_43 : decode cX5_readsPost 43 = .ok (.bipush (-9), 2) := by decide +kernel
theorem dX5_readsPost_45 : decode cX5_readsPost 45 = .ok (.goto 10, 3) := by decide +kernel
theorem dX5_readsPost_48 : decode cX5_readsPost 48 = .ok (.aload_n 0, 1) := by decide +kernel
theorem dX5_readsPost_49 : decode cX5_readsPost 49 = .ok (.iload_n 1, 1) := by decide +kernel
theorem dX5_readsPost_50 : decode cX5_readsPost 50 = .ok (.iload_n 2, 1) := by decide +kernel
theorem dX5_readsPost_51 : decode cX5_readsPost 51 = .ok (.iconst 0, 1) := by decide +kernel
theorem dX5_readsPost_52 : decode cX5_readsPost 52 = .ok (.invokevirtual 112, 3) := by decide +kernel
theorem dX5_readsPost_55 : decode cX5_readsPost 55 = .ok (.istore 4, 2) := by decide +kernel
theorem dX5_readsPost_57 : decode cX5_readsPost 57 = .ok (.iload 4, 2) := by decide +kernel
theorem dX5_readsPost_59 : decode cX5_readsPost 59 = .ok (.ifCond .ge 5, 3) := by decide +kernel
theorem dX5_readsPost_62 : decode cX5_readsPost 62 = .ok (.iconst 0, 1) := by decide +kernel
theorem dX5_readsPost_63 : decode cX5_readsPost 63 = .ok (.ireturn, 1) := by decide +kernel
theorem dX5_readsPost_64 : decode cX5_readsPost 64 = .ok (.aload_n 0, 1) := by decide +kernel
theorem dX5_readsPost_65 : decode cX5_readsPost 65 = .ok (.getfield 31, 3) := by decide +kernel
theorem dX5_readsPost_68 : decode cX5_readsPost 68 = .ok (.aload_n 0, 1) := by decide +kernel
theorem dX5_readsPost_69 : decode cX5_readsPost 69 = .ok (.getfield 109, 3) := by decide +kernel
theorem dX5_readsPost_72 : decode cX5_readsPost 72 = .ok (.iload_n 3, 1) := by decide +kernel
theorem dX5_readsPost_73 : decode cX5_readsPost 73 = .ok (.iastore, 1) := by decide +kernel
theorem dX5_readsPost_74 : decode cX5_readsPost 74 = .ok (.aload_n 0, 1) := by decide +kernel
theorem dX5_readsPost_75 : decode cX5_readsPost 75 = .ok (.getfield 34, 3) := by decide +kernel
theorem dX5_readsPost_78 : decode cX5_readsPost 78 = .ok (.aload_n 0, 1) := by decide +kernel
theorem dX5_readsPost_79 : decode cX5_readsPost 79 = .ok (.getfield 109, 3) := by decide +kernel
theorem dX5_readsPost_82 : decode cX5_readsPost 82 = .ok (.iload 4, 2) := by decide +kernel
theorem dX5_readsPost_84 : decode cX5_readsPost 84 = .ok (.iastore, 1) := by decide +kernel
theorem dX5_readsPost_85 : decode cX5_readsPost 85 = .ok (.aload_n 0, 1) := by decide +kernel
theorem dX5_readsPost_86 : decode cX5_readsPost 86 = .ok (.dup, 1) := by decide +kernel
theorem dX5_readsPost_87 : decode cX5_readsPost 87 = .ok (.getfield 109, 3) := by decide +kernel
theorem dX5_readsPost_90 : decode cX5_readsPost 90 = .ok (.iconst 1, 1) := by decide +kernel
theorem dX5_readsPost_91 : decode cX5_readsPost 91 = .ok (.iadd, 1) := by decide +kernel
theorem dX5_readsPost_92 : decode cX5_readsPost 92 = .ok (.putfield 109, 3) := by decide +kernel
theorem dX5_readsPost_95 : decode cX5_readsPost 95 = .ok (.iconst 1, 1) := by decide +kernel
theorem dX5_readsPost_96 : decode cX5_readsPost 96 = .ok (.ireturn, 1) := by decide +kernel
theorem dX5_readsSilence_0 : decode cX5_readsSilence 0 = .ok (.aload_n 0, 1) := by decide +kernel
theorem dX5_readsSilence_1 : decode cX5_readsSilence 1 = .ok (.getfield 116, 3) := by decide +kernel
theorem dX5_readsSilence_4 : decode cX5_readsSilence 4 = .ok (.iconst 4, 1) := by decide +kernel
theorem dX5_readsSilence_5 : decode cX5_readsSilence 5 = .ok (.if_icmp .eq 14, 3) := by decide +kernel
theorem dX5_readsSilence_8 : decode cX5_readsSilence 8 = .ok (.aload_n 0, 1) := by decide +kernel
theorem dX5_readsSilence_9 : decode cX5_readsSilence 9 = .ok (.iload_n 1, 1) := by decide +kernel
theorem dX5_readsSilence_10 : decode cX5_readsSilence 10 = .ok (.iload_n 2, 1) := by decide +kernel
theorem dX5_readsSilence_11 : decode cX5_readsSilence 11 = .ok (.invokevirtual 103, 3) := by decide +kernel
theorem dX5_readsSilence_14 : decode cX5_readsSilence 14 = .ok (.bipush 44, 2) := by decide +kernel
theorem dX5_readsSilence_16 : decode cX5_readsSilence 16 = .ok (.if_icmp .eq 5, 3) := by decide +kernel
theorem dX5_readsSilence_19 : decode cX5_readsSilence 19 = .ok (.iconst 0, 1) := by decide +kernel
theorem dX5_readsSilence_20 : decode cX5_readsSilence 20 = .ok (.ireturn, 1) := by decide +kernel
theorem dX5_readsSilence_21 : decode cX5_readsSilence 21 = .ok (.aload_n 0, 1) := by decide +kernel
theorem dX5_readsSilence_22 : decode cX5_readsSilence 22 = .ok (.dup, 1) := by decide +kernel
theorem dX5_readsSilence_23 : decode cX5_readsSilence 23 = .ok (.getfield 100, 3) := by decide +kernel
theorem dX5_readsSilence_26 : decode cX5_readsSilence 26 = .ok (.iconst 1, 1) := by decide +kernel
theorem dX5_readsSilence_27 : decode cX5_readsSilence 27 = .ok (.iadd, 1) := by decide +kernel
theorem dX5_readsSilence_28 : decode cX5_readsSilence 28 = .ok (.putfield 100, 3) := by decide +kernel
theorem dX5_readsSilence_31 : decode cX5_readsSilence 31 = .ok (.aload_n 0, 1) := by decide +kernel
theorem dX5_readsSilence_32 : decode cX5_readsSilence 32 = .ok (.iload_n 1, 1) := by decide +kernel
theorem dX5_readsSilence_33 : decode cX5_readsSilence 33 = .ok (.iload_n 2, 1) := by decide +kernel
theorem dX5_readsSilence_34 : decode cX5_readsSilence 34 = .ok (.invokevirtual 103, 3) := by decide +kernel
theorem dX5_readsSilence_37 : decode cX5_readsSilence 37 = .ok (.istore_n 3, 1) := by decide +kernel
theorem dX5_readsSilence_38 : decode cX5_readsSilence 38 = .ok (.iload_n 3, 1) := by decide +kernel
theorem dX5_readsSilence_39 : decode cX5_readsSilence 39 = .ok (.bipush 115, 2) := by decide +kernel
theorem dX5_readsSilence_41 : decode cX5_readsSilence 41 = .ok (.if_icmp .eq 17, 3) := by decide +kernel
theorem dX5_readsSilence_44 : decode cX5_readsSilence 44 = .ok (.iload_n 3, 1) := by decide +kernel
theorem dX5_readsSilence_45 : decode cX5_readsSilence 45 = .ok (.bipush 107, 2) := by decide +kernel
theorem dX5_readsSilence_47 : decode cX5_readsSilence 47 = .ok (.if_icmp .eq 11, 3) := by decide +kernel
theorem dX5_readsSilence_50 : decode cX5_readsSilence 50 = .ok (.iload_n 3, 1) := by decide +kernel
theorem dX5_readsSilence_51 : decode cX5_readsSilence 51 = .ok (.bipush 104, 2) := by decide +kernel
theorem dX5_readsSilence_53 : decode cX5_readsSilence 53 = .ok (.if_icmp .eq 5, 3) := by decide +kernel
theorem dX5_readsSilence_56 : decode cX5_readsSilence 56 = .ok (.iconst 0, 1) := by decide +kernel
theorem dX5_readsSilence_57 : decode cX5_readsSilence 57 = .ok (.ireturn, 1) := by decide +kernel
theorem dX5_readsSilence_58 : decode cX5_readsSilence 58 = .ok (.aload_n 0, 1) := by decide +kernel
theorem dX5_readsSilence_59 : decode cX5_readsSilence 59 = .ok (.dup, 1) := by decide +kernel
theorem dX5_readsSilence_60 : decode cX5_readsSilence 60 = .ok (.getfield 100, 3) := by decide +kernel
theorem dX5_readsSilence_63 : decode cX5_readsSilence 63 = .ok (.iconst 1, 1) := by decide +kernel
theorem dX5_readsSilence_64 : decode cX5_readsSilence 64 = .ok (.iadd, 1) := by decide +kernel
theorem dX5_readsSilence_65 : decode cX5_readsSilence 65 = .ok (.putfield 100, 3) := by decide +kernel
theorem dX5_readsSilence_68 : decode cX5_readsSilence 68 = .ok (.aload_n 0, 1) := by decide +kernel
theorem dX5_readsSilence_69 : decode cX5_readsSilence 69 = .ok (.iload_n 1, 1) := by decide +kernel
theorem dX5_readsSilence_70 : decode cX5_readsSilence 70 = .ok (.iload_n 2, 1) := by decide +kernel
theorem dX5_readsSilence_71 : decode cX5_readsSilence 71 = .ok (.iconst 1, 1) := by decide +kernel
theorem dX5_readsSilence_72 : decode cX5_readsSilence 72 = .ok (.invokevirtual 112, 3) := by decide +kernel
theorem dX5_readsSilence_75 : decode cX5_readsSilence 75 = .ok (.istore 4, 2) := by decide +kernel
theorem dX5_readsSilence_77 : decode cX5_readsSilence 77 = .ok (.iload 4, 2) := by decide +kernel
theorem dX5_readsSilence_79 : decode cX5_readsSilence 79 = .ok (.ifCond .ge 8, 3) := by decide +kernel
theorem dX5_readsSilence_82 : decode cX5_readsSilence 82 = .ok (.bipush (-9), 2) := by decide +kernel
theorem dX5_readsSilence_84 : decode cX5_readsSilence 84 = .ok (.goto 10, 3) := by decide +kernel
theorem dX5_readsSilence_87 : decode cX5_readsSilence 87 = .ok (.aload_n 0, 1) := by decide +kernel
theorem dX5_readsSilence_88 : decode cX5_readsSilence 88 = .ok (.iload_n 1, 1) := by decide +kernel
theorem dX5_readsSilence_89 : decode cX5_readsSilence 89 = .ok (.iload_n 2, 1) := by decide +kernel
theorem dX5_readsSilence_90 : decode cX5_readsSilence 90 = .ok (.iconst 1, 1) := by decide +kernel
theorem dX5_readsSilence_91 : decode cX5_readsSilence 91 = .ok (.invokevirtual 112, 3) := by decide +kernel
theorem dX5_readsSilence_94 : decode cX5_readsSilence 94 = .ok (.istore 5, 2) := by decide +kernel
theorem dX5_readsSilence_96 : decode cX5_readsSilence 96 = .ok (.iload 5, 2) := by decide +kernel
theorem dX5_readsSilence_98 : decode cX5_readsSilence 98 = .ok (.ifCond .ge 5, 3) := by decide +kernel
theorem dX5_readsSilence_101 : decode cX5_readsSilence 101 = .ok (.iconst 0, 1) := by decide +kernel
theorem dX5_readsSilence_102 : decode cX5_readsSilence 102 = .ok (.ireturn, 1) := by decide +kernel
theorem dX5_readsSilence_103 : decode cX5_readsSilence 103 = .ok (.aload_n 0, 1) := by decide +kernel
theorem dX5_readsSilence_104 : decode cX5_readsSilence 104 = .ok (.getfield 37, 3) := by decide +kernel
theorem dX5_readsSilence_107 : decode cX5_readsSilence 107 = .ok (.aload_n 0, 1) := by decide +kernel
theorem dX5_readsSilence_108 : decode cX5_readsSilence 108 = .ok (.getfield 116, 3) := by decide +kernel
theorem dX5_readsSilence_111 : decode cX5_readsSilence 111 = .ok (.iload_n 3, 1) := by decide +kernel
theorem dX5_readsSilence_112 : decode cX5_readsSilence 112 = .ok (.bipush 115, 2) := by decide +kernel
theorem dX5_readsSilence_114 : decode cX5_readsSilence 114 = .ok (.if_icmp .ne 7, 3) := by decide +kernel
theorem dX5_readsSilence_117 : decode cX5_readsSilence 117 = .ok (.iconst 0, 1) := by decide +kernel
theorem dX5_readsSilence_118 : decode cX5_readsSilence 118 = .ok (.goto 14, 3) := by decide +kernel
theorem dX5_readsSilence_121 : decode cX5_readsSilence 121 = .ok (.iload_n 3, 1) := by decide +kernel
theorem dX5_readsSilence_122 : decode cX5_readsSilence 122 = .ok (.bipush 107, 2) := by decide +kernel
theorem dX5_readsSilence_124 : decode cX5_readsSilence 124 = .ok (.if_icmp .ne 7, 3) := by decide +kernel
theorem dX5_readsSilence_127 : decode cX5_readsSilence 127 = .ok (.iconst 1, 1) := by decide +kernel
theorem dX5_readsSilence_128 : decode cX5_readsSilence 128 = .ok (.goto 4, 3) := by decide +kernel
theorem dX5_readsSilence_131 : decode cX5_readsSilence 131 = .ok (.iconst 2, 1) := by decide +kernel
theorem dX5_readsSilence_132 : decode cX5_readsSilence 132 = .ok (.iastore, 1) := by decide +kernel
theorem dX5_readsSilence_133 : decode cX5_readsSilence 133 = .ok (.aload_n 0, 1) := by decide +kernel
theorem dX5_readsSilence_134 : decode cX5_readsSilence 134 = .ok (.getfield 40, 3) := by decide +kernel
theorem dX5_readsSilence_137 : decode cX5_readsSilence 137 = .ok (.aload_n 0, 1) := by decide +kernel
theorem dX5_readsSilence_138 : decode cX5_readsSilence 138 = .ok (.getfield 116, 3) := by decide +kernel
theorem dX5_readsSilence_141 : decode cX5_readsSilence 141 = .ok (.iload 4, 2) := by decide +kernel
theorem dX5_readsSilence_143 : decode cX5_readsSilence 143 = .ok (.iastore, 1) := by decide +kernel
theorem dX5_readsSilence_144 : decode cX5_readsSilence 144 = .ok (.aload_n 0, 1) := by decide +kernel
theorem dX5_readsSilence_145 : decode cX5_readsSilence 145 = .ok (.getfield 43, 3) := by decide +kernel
theorem dX5_readsSilence_148 : decode cX5_readsSilence 148 = .ok (.aload_n 0, 1) := by decide +kernel
theorem dX5_readsSilence_149 : decode cX5_readsSilence 149 = .ok (.getfield 116, 3) := by decide +kernel
theorem dX5_readsSilence_152 : decode cX5_readsSilence 152 = .ok (.iload 5, 2) := by decide +kernel
theorem dX5_readsSilence_154 : decode cX5_readsSilence 154 = .ok (.iastore, 1) := by decide +kernel
theorem dX5_readsSilence_155 : decode cX5_readsSilence 155 = .ok (.aload_n 0, 1) := by decide +kernel
theorem dX5_readsSilence_156 : decode cX5_readsSilence 156 = .ok (.dup, 1) := by decide +kernel
theorem dX5_readsSilence_157 : decode cX5_readsSilence 157 = .ok (.getfield 116, 3) := by decide +kernel
theorem dX5_readsSilence_160 : decode cX5_readsSilence 160 = .ok (.iconst 1, 1) := by decide +kernel
theorem dX5_readsSilence_161 : decode cX5_readsSilence 161 = .ok (.iadd, 1) := by decide +kernel
theorem dX5_readsSilence_162 : decode cX5_readsSilence 162 = .ok (.putfield 116, 3) := by decide +kernel
theorem dX5_readsSilence_165 : decode cX5_readsSilence 165 = .ok (.iconst 1, 1) := by decide +kernel
theorem dX5_readsSilence_166 : decode cX5_readsSilence 166 = .ok (.ireturn, 1) := by decide +kernel
theorem dX5_readsFrontier_0 : decode cX5_readsFrontier 0 = .ok (.aload_n 0, 1) := by decide +kernel
theorem dX5_readsFrontier_1 : decode cX5_readsFrontier 1 = .ok (.iconst 0, 1) := by decide +kernel
theorem dX5_readsFrontier_2 : decode cX5_readsFrontier 2 = .ok (.putfield 100, 3) := by decide +kernel
theorem dX5_readsFrontier_5 : decode cX5_readsFrontier 5 = .ok (.aload_n 0, 1) := by decide +kernel
theorem dX5_readsFrontier_6 : decode cX5_readsFrontier 6 = .ok (.iconst 0, 1) := by decide +kernel
theorem dX5_readsFrontier_7 : decode cX5_readsFrontier 7 = .ok (.putfield 109, 3) := by decide +kernel
theorem dX5_readsFrontier_10 : decode cX5_readsFrontier 10 = .ok (.aload_n 0, 1) := by decide +kernel
theorem dX5_readsFrontier_11 : decode cX5_readsFrontier 11 = .ok (.iconst 0, 1) := by decide +kernel
theorem dX5_readsFrontier_12 : decode cX5_readsFrontier 12 = .ok (.putfield 116, 3) := by decide +kernel
theorem dX5_readsFrontier_15 : decode cX5_readsFrontier 15 = .ok (.aload_n 0, 1) := by decide +kernel
theorem dX5_readsFrontier_16 : decode cX5_readsFrontier 16 = .ok (.iload_n 1, 1) := by decide +kernel
theorem dX5_readsFrontier_17 : decode cX5_readsFrontier 17 = .ok (.iload_n 2, 1) := by decide +kernel
theorem dX5_readsFrontier_18 : decode cX5_readsFrontier 18 = .ok (.invokevirtual 103, 3) := by decide +kernel
theorem dX5_readsFrontier_21 : decode cX5_readsFrontier 21 = .ok (.bipush 117, 2) := by decide +kernel
theorem dX5_readsFrontier_23 : decode cX5_readsFrontier 23 = .ok (.if_icmp .ne 7, 3) := by decide +kernel
theorem dX5_readsFrontier_26 : decode cX5_readsFrontier 26 = .ok (.iconst 1, 1) := by decide +kernel
theorem dX5_readsFrontier_27 : decode cX5_readsFrontier 27 = .ok (.goto 4, 3) := by decide +kernel
theorem dX5_readsFrontier_30 : decode cX5_readsFrontier 30 = .ok (.iconst 0, 1) := by decide +kernel
theorem dX5_readsFrontier_31 : decode cX5_readsFrontier 31 = .ok (.istore_n 3, 1) := by decide +kernel
theorem dX5_readsFrontier_32 : decode cX5_readsFrontier 32 = .ok (.aload_n 0, 1) := by decide +kernel
theorem dX5_readsFrontier_33 : decode cX5_readsFrontier 33 = .ok (.dup, 1) := by decide +kernel
theorem dX5_readsFrontier_34 : decode cX5_readsFrontier 34 = .ok (.getfield 100, 3) := by decide +kernel
theorem dX5_readsFrontier_37 : decode cX5_readsFrontier 37 = .ok (.iload_n 3, 1) := by decide +kernel
theorem dX5_readsFrontier_38 : decode cX5_readsFrontier 38 = .ok (.ifCond .eq 7, 3) := by decide +kernel
theorem dX5_readsFrontier_41 : decode cX5_readsFrontier 41 = .ok (.iconst 1, 1) := by decide +kernel
theorem dX5_readsFrontier_42 : decode cX5_readsFrontier 42 = .ok (.goto 4, 3) := by decide +kernel
theorem dX5_readsFrontier_45 : decode cX5_readsFrontier 45 = .ok (.iconst 0, 1) := by decide +kernel
theorem dX5_readsFrontier_46 : decode cX5_readsFrontier 46 = .ok (.iadd, 1) := by decide +kernel
theorem dX5_readsFrontier_47 : decode cX5_readsFrontier 47 = .ok (.putfield 100, 3) := by decide +kernel
theorem dX5_readsFrontier_50 : decode cX5_readsFrontier 50 = .ok (.aload_n 0, 1) := by decide +kernel
theorem dX5_readsFrontier_51 : decode cX5_readsFrontier 51 = .ok (.iload_n 3, 1) := by decide +kernel
theorem dX5_readsFrontier_52 : decode cX5_readsFrontier 52 = .ok (.ifCond .eq 13, 3) := by decide +kernel
theorem dX5_readsFrontier_55 : decode cX5_readsFrontier 55 = .ok (.aload_n 0, 1) := by decide +kernel
theorem dX5_readsFrontier_56 : decode cX5_readsFrontier 56 = .ok (.iload_n 1, 1) := by decide +kernel
theorem dX5_readsFrontier_57 : decode cX5_readsFrontier 57 = .ok (.iload_n 2, 1) := by decide +kernel
theorem dX5_readsFrontier_58 : decode cX5_readsFrontier 58 = .ok (.iconst 0, 1) := by decide +kernel
theorem dX5_readsFrontier_59 : decode cX5_readsFrontier 59 = .ok (.invokevirtual 112, 3) := by decide +kernel
theorem dX5_readsFrontier_62 : decode cX5_readsFrontier 62 = .ok (.goto 5, 3) := by decide +kernel
theorem dX5_readsFrontier_65 : decode cX5_readsFrontier 65 = .ok (.bipush (-9), 2) := by decide +kernel
theorem dX5_readsFrontier_67 : decode cX5_readsFrontier 67 = .ok (.putfield 119, 3) := by decide +kernel
theorem dX5_readsFrontier_70 : decode cX5_readsFrontier 70 = .ok (.aload_n 0, 1) := by decide +kernel
theorem dX5_readsFrontier_71 : decode cX5_readsFrontier 71 = .ok (.getfield 119, 3) := by decide +kernel
theorem dX5_readsFrontier_74 : decode cX5_readsFrontier 74 = .ok (.ifCond .lt 7, 3) := by decide +kernel
theorem dX5_readsFrontier_77 : decode cX5_readsFrontier 77 = .ok (.iconst 1, 1) := by decide +kernel
theorem dX5_readsFrontier_78 : decode cX5_readsFrontier 78 = .ok (.goto 4, 3) := by decide +kernel
theorem dX5_readsFrontier_81 : decode cX5_readsFrontier 81 = .ok (.iconst 0, 1) := by decide +kernel
theorem dX5_readsFrontier_82 : decode cX5_readsFrontier 82 = .ok (.istore_n 3, 1) := by decide +kernel
theorem dX5_readsFrontier_83 : decode cX5_readsFrontier 83 = .ok (.iload_n 3, 1) := by decide +kernel
theorem dX5_readsFrontier_84 : decode cX5_readsFrontier 84 = .ok (.ifCond .eq 31, 3) := by decide +kernel
theorem dX5_readsFrontier_87 : decode cX5_readsFrontier 87 = .ok (.aload_n 0, 1) := by decide +kernel
theorem dX5_readsFrontier_88 : decode cX5_readsFrontier 88 = .ok (.getfield 109, 3) := by decide +kernel
theorem dX5_readsFrontier_91 : decode cX5_readsFrontier 91 = .ok (.ifCond .eq 14, 3) := by decide +kernel
theorem dX5_readsFrontier_94 : decode cX5_readsFrontier 94 = .ok (.aload_n 0, 1) := by decide +kernel
theorem dX5_readsFrontier_95 : decode cX5_readsFrontier 95 = .ok (.iload_n 1, 1) := by decide +kernel
theorem dX5_readsFrontier_96 : decode cX5_readsFrontier 96 = .ok (.iload_n 2, 1) := by decide +kernel
theorem dX5_readsFrontier_97 : decode cX5_readsFrontier 97 = .ok (.invokevirtual 103, 3) := by decide +kernel
theorem dX5_readsFrontier_100 : decode cX5_readsFrontier 100 = .ok (.bipush 59, 2) := by decide +kernel
theorem dX5_readsFrontier_102 : decode cX5_readsFrontier 102 = .ok (.if_icmp .ne 13, 3) := by decide +kernel
theorem dX5_readsFrontier_105 : decode cX5_readsFrontier 105 = .ok (.aload_n 0, 1) := by decide +kernel
theorem dX5_readsFrontier_106 : decode cX5_readsFrontier 106 = .ok (.iload_n 1, 1) := by decide +kernel
theorem dX5_readsFrontier_107 : decode cX5_readsFrontier 107 = .ok (.iload_n 2, 1) := by decide +kernel
theorem dX5_readsFrontier_108 : decode cX5_readsFrontier 108 = .ok (.invokevirtual 122, 3) := by decide +kernel
theorem dX5_readsFrontier_111 : decode cX5_readsFrontier 111 = .ok (.istore_n 3, 1) := by decide +kernel
theorem dX5_readsFrontier_112 : decode cX5_readsFrontier 112 = .ok (.goto (-29), 3) := by decide +kernel
theorem dX5_readsFrontier_115 : decode cX5_readsFrontier 115 = .ok (.iload_n 3, 1) := by decide +kernel
theorem dX5_readsFrontier_116 : decode cX5_readsFrontier 116 = .ok (.ifCond .eq 28, 3) := by decide +kernel
theorem dX5_readsFrontier_119 : decode cX5_readsFrontier 119 = .ok (.aload_n 0, 1) := by decide +kernel
theorem dX5_readsFrontier_120 : decode cX5_readsFrontier 120 = .ok (.getfield 116, 3) := by decide +kernel
theorem dX5_readsFrontier_123 : decode cX5_readsFrontier 123 = .ok (.ifCond .eq 11, 3) := by decide +kernel
theorem dX5_readsFrontier_126 : decode cX5_readsFrontier 126 = .ok (.aload_n 0, 1) := by decide +kernel
theorem dX5_readsFrontier_127 : decode cX5_readsFrontier 127 = .ok (.getfield 100, 3) := by decide +kernel
theorem dX5_readsFrontier_130 : decode cX5_readsFrontier 130 = .ok (.iload_n 2, 1) := by decide +kernel
theorem dX5_readsFrontier_131 : decode cX5_readsFrontier 131 = .ok (.if_icmp .ge 13, 3) := by decide +kernel
theorem dX5_readsFrontier_134 : decode cX5_readsFrontier 134 = .ok (.aload_n 0, 1) := by decide +kernel
theorem dX5_readsFrontier_135 : decode cX5_readsFrontier 135 = .ok (.iload_n 1, 1) := by decide +kernel
theorem dX5_readsFrontier_136 : decode cX5_readsFrontier 136 = .ok (.iload_n 2, 1) := by decide +kernel
theorem dX5_readsFrontier_137 : decode cX5_readsFrontier 137 = .ok (.invokevirtual 126, 3) := by decide +kernel
theorem dX5_readsFrontier_140 : decode cX5_readsFrontier 140 = .ok (.istore_n 3, 1) := by decide +kernel
theorem dX5_readsFrontier_141 : decode cX5_readsFrontier 141 = .ok (.goto (-26), 3) := by decide +kernel
theorem dX5_readsFrontier_144 : decode cX5_readsFrontier 144 = .ok (.iload_n 3, 1) := by decide +kernel
theorem dX5_readsFrontier_145 : decode cX5_readsFrontier 145 = .ok (.ireturn, 1) := by decide +kernel
theorem dX5_cellsBarred_0 : decode cX5_cellsBarred 0 = .ok (.aload_n 0, 1) := by decide +kernel
theorem dX5_cellsBarred_1 : decode cX5_cellsBarred 1 = .ok (.getfield 61, 3) := by decide +kernel
theorem dX5_cellsBarred_4 : decode cX5_cellsBarred 4 = .ok (.iload_n 1, 1) := by decide +kernel
theorem dX5_cellsBarred_5 : decode cX5_cellsBarred 5 = .ok (.iaload, 1) := by decide +kernel
theorem dX5_cellsBarred_6 : decode cX5_cellsBarred 6 = .ok (.ifCond .lt 19, 3) := by decide +kernel
theorem dX5_cellsBarred_9 : decode cX5_cellsBarred 9 = .ok (.aload_n 0, 1) := by decide +kernel
theorem dX5_cellsBarred_10 : decode cX5_cellsBarred 10 = .ok (.getfield 64, 3) := by decide +kernel
theorem dX5_cellsBarred_13 : decode cX5_cellsBarred 13 = .ok (.iload_n 1, 1) := by decide +kernel
theorem dX5_cellsBarred_14 : decode cX5_cellsBarred 14 = .ok (.iaload, 1) := by decide +kernel
theorem dX5_cellsBarred_15 : decode cX5_cellsBarred 15 = .ok (.iload_n 2, 1) := by decide +kernel
theorem dX5_cellsBarred_16 : decode cX5_cellsBarred 16 = .ok (.if_icmp .eq 9, 3) := by decide +kernel
theorem dX5_cellsBarred_19 : decode cX5_cellsBarred 19 = .ok (.aload_n 0, 1) := by decide +kernel
theorem dX5_cellsBarred_20 : decode cX5_cellsBarred 20 = .ok (.iconst 2, 1) := by decide +kernel
theorem dX5_cellsBarred_21 : decode cX5_cellsBarred 21 = .ok (.invokevirtual 129, 3) := by decide +kernel
theorem dX5_cellsBarred_24 : decode cX5_cellsBarred 24 = .ok (.ireturn, 1) := by decide +kernel
theorem dX5_cellsBarred_25 : decode cX5_cellsBarred 25 = .ok (.aload_n 0, 1) := by decide +kernel
theorem dX5_cellsBarred_26 : decode cX5_cellsBarred 26 = .ok (.getfield 61, 3) := by decide +kernel
theorem dX5_cellsBarred_29 : decode cX5_cellsBarred 29 = .ok (.iload_n 1, 1) := by decide +kernel
theorem dX5_cellsBarred_30 : decode cX5_cellsBarred 30 = .ok (.iaload, 1) := by decide +kernel
theorem dX5_cellsBarred_31 : decode cX5_cellsBarred 31 = .ok (.ifCond .ge 9, 3) := by decide +kernel
theorem dX5_cellsBarred_34 : decode cX5_cellsBarred 34 = .ok (.aload_n 0, 1) := by decide +kernel
theorem dX5_cellsBarred_35 : decode cX5_cellsBarred 35 = .ok (.iconst 1, 1) := by decide +kernel
theorem dX5_cellsBarred_36 : decode cX5_cellsBarred 36 = .ok (.invokevirtual 129, 3) := by decide +kernel
theorem dX5_cellsBarred_39 : decode cX5_cellsBarred 39 = .ok (.ireturn, 1) := by decide +kernel
theorem dX5_cellsBarred_40 : decode cX5_cellsBarred 40 = .ok (.lload 4, 2) := by decide +kernel
theorem dX5_cellsBarred_42 : decode cX5_cellsBarred 42 = .ok (.lconst 0, 1) := by decide +kernel
theorem dX5_cellsBarred_43 : decode cX5_cellsBarred 43 = .ok (.lcmp, 1) := by decide +kernel
theorem dX5_cellsBarred_44 : decode cX5_cellsBarred 44 = .ok (.ifCond .ge 9, 3) := by decide +kernel
theorem dX5_cellsBarred_47 : decode cX5_cellsBarred 47 = .ok (.aload_n 0, 1) := by decide +kernel
theorem dX5_cellsBarred_48 : decode cX5_cellsBarred 48 = .ok (.iconst 4, 1) := by decide +kernel
theorem dX5_cellsBarred_49 : decode cX5_cellsBarred 49 = .ok (.invokevirtual 129, 3) := by decide +kernel
theorem dX5_cellsBarred_52 : decode cX5_cellsBarred 52 = .ok (.ireturn, 1) := by decide +kernel
theorem dX5_cellsBarred_53 : decode cX5_cellsBarred 53 = .ok (.iload_n 3, 1) := by decide +kernel
theorem dX5_cellsBarred_54 : decode cX5_cellsBarred 54 = .ok (.lload 4, 2) := by decide +kernel
theorem dX5_cellsBarred_56 : decode cX5_cellsBarred 56 = .ok (.aload_n 0, 1) := by decide +kernel
theorem dX5_cellsBarred_57 : decode cX5_cellsBarred 57 = .ok (.getfield 61, 3) := by decide +kernel
theorem dX5_cellsBarred_60 : decode cX5_cellsBarred 60 = .ok (.iload_n 1, 1) := by decide +kernel
theorem dX5_cellsBarred_61 : decode cX5_cellsBarred 61 = .ok (.iaload, 1) := by decide +kernel
theorem dX5_cellsBarred_62 : decode cX5_cellsBarred 62 = .ok (.invokestatic 133, 3) := by decide +kernel
theorem dX5_cellsBarred_65 : decode cX5_cellsBarred 65 = .ok (.ifCond .eq 11, 3) := by decide +kernel
theorem dX5_cellsBarred_68 : decode cX5_cellsBarred 68 = .ok (.aload_n 0, 1) := by decide +kernel
theorem dX5_cellsBarred_69 : decode cX5_cellsBarred 69 = .ok (.iconst 3, 1) := by decide +kernel
theorem dX5_cellsBarred_70 : decode cX5_cellsBarred 70 = .ok (.invokevirtual 129, 3) := by decide +kernel
theorem dX5_cellsBarred_73 : decode cX5_cellsBarred 73 = .ok (.goto 4, 3) := by decide +kernel
theorem dX5_cellsBarred_76 : decode cX5_cellsBarred 76 = .ok (.iconst 0, 1) := by decide +kernel
theorem dX5_cellsBarred_77 : decode cX5_cellsBarred 77 = .ok (.ireturn, 1) := by decide +kernel
theorem dX5_frontier_0 : decode cX5_frontier 0 = .ok (.iload_n 1, 1) := by decide +kernel
theorem dX5_frontier_1 : decode cX5_frontier 1 = .ok (.invokestatic 137, 3) := by decide +kernel
theorem dX5_frontier_4 : decode cX5_frontier 4 = .ok (.ifCond .eq 9, 3) := by decide +kernel
theorem dX5_frontier_7 : decode cX5_frontier 7 = .ok (.aload_n 0, 1) := by decide +kernel
theorem dX5_frontier_8 : decode cX5_frontier 8 = .ok (.iconst (-1), 1) := by decide +kernel
theorem dX5_frontier_9 : decode cX5_frontier 9 = .ok (.invokevirtual 141, 3) := by decide +kernel
theorem dX5_frontier_12 : decode cX5_frontier 12 = .ok (.ireturn, 1) := by decide +kernel
theorem dX5_frontier_13 : decode cX5_frontier 13 = .ok (.iload_n 2, 1) := by decide +kernel
theorem dX5_frontier_14 : decode cX5_frontier 14 = .ok (.i2l, 1) := by decide +kernel
theorem dX5_frontier_15 : decode cX5_frontier 15 = .ok (.lconst 0, 1) := by decide +kernel
theorem dX5_frontier_16 : decode cX5_frontier 16 = .ok (.ldc2_w 98, 3) := by decide +kernel
theorem dX5_frontier_19 : decode cX5_frontier 19 = .ok (.invokestatic 91, 3) := by decide +kernel
theorem dX5_frontier_22 : decode cX5_frontier 22 = .ok (.ifCond .ne 10, 3) := by decide +kernel
theorem dX5_frontier_25 : decode cX5_frontier 25 = .ok (.aload_n 0, 1) := by decide +kernel
theorem dX5_frontier_26 : decode cX5_frontier 26 = .ok (.bipush (-2), 2) := by decide +kernel
theorem dX5_frontier_28 : decode cX5_frontier 28 = .ok (.invokevirtual 141, 3) := by decide +kernel
theorem dX5_frontier_31 : decode cX5_frontier 31 = .ok (.ireturn, 1) := by decide +kernel
theorem dX5_frontier_32 : decode cX5_frontier 32 = .ok (.aload_n 0, 1) := by decide +kernel
theorem dX5_frontier_33 : decode cX5_frontier 33 = .ok (.iload_n 1, 1) := by decide +kernel
theorem dX5_frontier_34 : decode cX5_frontier 34 = .ok (.iload_n 2, 1) := by decide +kernel
theorem dX5_frontier_35 : decode cX5_frontier 35 = .ok (.iload_n 3, 1) := by decide +kernel
theorem dX5_frontier_36 : decode cX5_frontier 36 = .ok (.iload 4, 2) := by decide +kernel
theorem dX5_frontier_38 : decode cX5_frontier 38 = .ok (.i2l, 1) := by decide +kernel
theorem dX5_frontier_39 : decode cX5_frontier 39 = .ok (.invokevirtual 144, 3) := by decide +kernel
theorem dX5_frontier_42 : decode cX5_frontier 42 = .ok (.istore 5, 2) := by decide +kernel
theorem dX5_frontier_44 : decode cX5_frontier 44 = .ok (.iload 5, 2) := by decide +kernel
theorem dX5_frontier_46 : decode cX5_frontier 46 = .ok (.ifCond .ge 6, 3) := by decide +kernel
theorem dX5_frontier_49 : decode cX5_frontier 49 = .ok (.iload 5, 2) := by decide +kernel
theorem dX5_frontier_51 : decode cX5_frontier 51 = .ok (.ireturn, 1) := by decide +kernel
theorem dX5_frontier_52 : decode cX5_frontier 52 = .ok (.aload_n 0, 1) := by decide +kernel
theorem dX5_frontier_53 : decode cX5_frontier 53 = .ok (.bipush 60, 2) := by decide +kernel
theorem dX5_frontier_55 : decode cX5_frontier 55 = .ok (.iload_n 1, 1) := by decide +kernel
theorem dX5_frontier_56 : decode cX5_frontier 56 = .ok (.imul, 1) := by decide +kernel
theorem dX5_frontier_57 : decode cX5_frontier 57 = .ok (.iload_n 3, 1) := by decide +kernel
theorem dX5_frontier_58 : decode cX5_frontier 58 = .ok (.iadd, 1) := by decide +kernel
theorem dX5_frontier_59 : decode cX5_frontier 59 = .ok (.iload 4, 2) := by decide +kernel
theorem dX5_frontier_61 : decode cX5_frontier 61 = .ok (.invokevirtual 148, 3) := by decide +kernel
theorem dX5_frontier_64 : decode cX5_frontier 64 = .ok (.ifCond .ne 15, 3) := by decide +kernel
theorem dX5_frontier_67 : decode cX5_frontier 67 = .ok (.aload_n 0, 1) := by decide +kernel
theorem dX5_frontier_68 : decode cX5_frontier 68 = .ok (.bipush (-100), 2) := by decide +kernel
theorem dX5_frontier_70 : decode cX5_frontier 70 = .ok (.aload_n 0, 1) := by decide +kernel
theorem dX5_frontier_71 : decode cX5_frontier 71 = .ok (.getfield 100, 3) := by decide +kernel
theorem dX5_frontier_74 : decode cX5_frontier 74 = .ok (.isub, 1) := by decide +kernel
theorem dX5_frontier_75 : decode cX5_frontier 75 = .ok (.invokevirtual 141, 3) := by decide +kernel
theorem dX5_frontier_78 : decode cX5_frontier 78 = .ok (.ireturn, 1) := by decide +kernel
theorem dX5_frontier_79 : decode cX5_frontier 79 = .ok (.aload_n 0, 1) := by decide +kernel
theorem dX5_frontier_80 : decode cX5_frontier 80 = .ok (.aload_n 0, 1) := by decide +kernel
theorem dX5_frontier_81 : decode cX5_frontier 81 = .ok (.getfield 119, 3) := by decide +kernel
theorem dX5_frontier_84 : decode cX5_frontier 84 = .ok (.putfield 151, 3) := by decide +kernel
theorem dX5_frontier_87 : decode cX5_frontier 87 = .ok (.aload_n 0, 1) := by decide +kernel
theorem dX5_frontier_88 : decode cX5_frontier 88 = .ok (.aload_n 0, 1) := by decide +kernel
theorem dX5_frontier_89 : decode cX5_frontier 89 = .ok (.getfield 109, 3) := by decide +kernel
theorem dX5_frontier_92 : decode cX5_frontier 92 = .ok (.putfield 88, 3) := by decide +kernel
theorem dX5_frontier_95 : decode cX5_frontier 95 = .ok (.aload_n 0, 1) := by decide +kernel
theorem dX5_frontier_96 : decode cX5_frontier 96 = .ok (.aload_n 0, 1) := by decide +kernel
theorem dX5_frontier_97 : decode cX5_frontier 97 = .ok (.getfield 116, 3) := by decide +kernel
theorem dX5_frontier_100 : decode cX5_frontier 100 = .ok (.putfield 95, 3) := by decide +kernel
theorem dX5_frontier_103 : decode cX5_frontier 103 = .ok (.iconst 0, 1) := by decide +kernel
theorem dX5_frontier_104 : decode cX5_frontier 104 = .ok (.istore 6, 2) := by decide +kernel
theorem dX5_frontier_106 : decode cX5_frontier 106 = .ok (.iload 6, 2) := by decide +kernel
theorem dX5_frontier_108 : decode cX5_frontier 108 = .ok (.iconst 4, 1) := by decide +kernel
theorem dX5_frontier_109 : decode cX5_frontier 109 = .ok (.if_icmp .ge 87, 3) := by decide +kernel
theorem dX5_frontier_112 : decode cX5_frontier 112 = .ok (.aload_n 0, 1) := by decide +kernel
theorem dX5_frontier_113 : decode cX5_frontier 113 = .ok (.getfield 7, 3) := by decide +kernel
theorem dX5_frontier_116 : decode cX5_frontier 116 = .ok (.iload 6, 2) := by decide +kernel
theorem dX5_frontier_118 : decode cX5_frontier 118 = .ok (.aload_n 0, 1) := by decide +kernel
theorem dX5_frontier_119 : decode cX5_frontier 119 = .ok (.getfield 31, 3) := by decide +kernel
theorem dX5_frontier_122 : decode cX5_frontier 122 = .ok (.iload 6, 2) := by decide +kernel
theorem dX5_frontier_124 : decode cX5_frontier 124 = .ok (.iaload, 1) := by decide +kernel
theorem dX5_frontier_125 : decode cX5_frontier 125 = .ok (.iastore, 1) := by decide +kernel
theorem dX5_frontier_126 : decode cX5_frontier 126 = .ok (.aload_n 0, 1) := by decide +kernel
theorem dX5_frontier_127 : decode cX5_frontier 127 = .ok (.getfield 13, 3) := by decide +kernel
theorem dX5_frontier_130 : decode cX5_frontier 130 = .ok (.iload 6, 2) := by decide +kernel
theorem dX5_frontier_132 : decode cX5_frontier 132 = .ok (.aload_n 0, 1) := by decide +kernel
theorem dX5_frontier_133 : decode cX5_frontier 133 = .ok (.getfield 34, 3) := by decide +kernel
theorem dX5_frontier_136 : decode cX5_frontier 136 = .ok (.iload 6, 2) := by decide +kernel
theorem dX5_frontier_138 : decode cX5_frontier 138 = .ok (.iaload, 1) := by decide +kernel
theorem dX5_frontier_139 : decode cX5_frontier 139 = .ok (.iastore, 1) := by decide +kernel
theorem dX5_frontier_140 : decode cX5_frontier 140 = .ok (.aload_n 0, 1) := by decide +kernel
theorem dX5_frontier_141 : decode cX5_frontier 141 = .ok (.getfield 16, 3) := by decide +kernel
theorem dX5_frontier_144 : decode cX5_frontier 144 = .ok (.iload 6, 2) := by decide +kernel
theorem dX5_frontier_146 : decode cX5_frontier 146 = .ok (.aload_n 0, 1) := by decide +kernel
theorem dX5_frontier_147 : decode cX5_frontier 147 = .ok (.getfield 37, 3) := by decide +kernel
theorem dX5_frontier_150 : decode cX5_frontier 150 = .ok (.iload 6, 2) := by decide +kernel
theorem dX5_frontier_152 : decode cX5_frontier 152 = .ok (.iaload, 1) := by decide +kernel
theorem dX5_frontier_153 : decode cX5_frontier 153 = .ok (.iastore, 1) := by decide +kernel
theorem dX5_frontier_154 : decode cX5_frontier 154 = .ok (.aload_n 0, 1) := by decide +kernel
theorem dX5_frontier_155 : decode cX5_frontier 155 = .ok (.getfield 19, 3) := by decide +kernel
theorem dX5_frontier_158 : decode cX5_frontier 158 = .ok (.iload 6, 2) := by decide +kernel
theorem dX5_frontier_160 : decode cX5_frontier 160 = .ok (.aload_n 0, 1) := by decide +kernel
theorem dX5_frontier_161 : decode cX5_frontier 161 = .ok (.getfield 40, 3) := by decide +kernel
theorem dX5_frontier_164 : decode cX5_frontier 164 = .ok (.iload 6, 2) := by decide +kernel
theorem dX5_frontier_166 : decode cX5_frontier 166 = .ok (.iaload, 1) := by decide +kernel
theorem dX5_frontier_167 : decode cX5_frontier 167 = .ok (.iastore, 1) := by decide +kernel
theorem dX5_frontier_168 : decode cX5_frontier 168 = .ok (.aload_n 0, 1) := by decide +kernel
theorem dX5_frontier_169 : decode cX5_frontier 169 = .ok (.getfield 22, 3) := by decide +kernel
theorem dX5_frontier_172 : decode cX5_frontier 172 = .ok (.iload 6, 2) := by decide +kernel
theorem dX5_frontier_174 : decode cX5_frontier 174 = .ok (.aload_n 0, 1) := by decide +kernel
theorem dX5_frontier_175 : decode cX5_frontier 175 = .ok (.getfield 43, 3) := by decide +kernel
theorem dX5_frontier_178 : decode cX5_frontier 178 = .ok (.iload 6, 2) := by decide +kernel
theorem dX5_frontier_180 : decode cX5_frontier 180 = .ok (.iaload, 1) := by decide +kernel
theorem dX5_frontier_181 : decode cX5_frontier 181 = .ok (.iastore, 1) := by decide +kernel
theorem dX5_frontier_182 : decode cX5_frontier 182 = .ok (.aload_n 0, 1) := by decide +kernel
theorem dX5_frontier_183 : decode cX5_frontier 183 = .ok (.getfield 25, 3) := by decide +kernel
theorem dX5_frontier_186 : decode cX5_frontier 186 = .ok (.iload 6, 2) := by decide +kernel
theorem dX5_frontier_188 : decode cX5_frontier 188 = .ok (.iconst 0, 1) := by decide +kernel
theorem dX5_frontier_189 : decode cX5_frontier 189 = .ok (.iastore, 1) := by decide +kernel
theorem dX5_frontier_190 : decode cX5_frontier 190 = .ok (.iinc 6 1, 3) := by decide +kernel
theorem dX5_frontier_193 : decode cX5_frontier 193 = .ok (.goto (-87), 3) := by decide +kernel
theorem dX5_frontier_196 : decode cX5_frontier 196 = .ok (.iconst 0, 1) := by decide +kernel
theorem dX5_frontier_197 : decode cX5_frontier 197 = .ok (.istore 6, 2) := by decide +kernel
theorem dX5_frontier_199 : decode cX5_frontier 199 = .ok (.iload 6, 2) := by decide +kernel
theorem dX5_frontier_201 : decode cX5_frontier 201 = .ok (.iconst 3, 1) := by decide +kernel
theorem dX5_frontier_202 : decode cX5_frontier 202 = .ok (.if_icmp .ge 17, 3) := by decide +kernel
theorem dX5_frontier_205 : decode cX5_frontier 205 = .ok (.aload_n 0, 1) := by decide +kernel
theorem dX5_frontier_206 : decode cX5_frontier 206 = .ok (.getfield 28, 3) := by decide +kernel
theorem dX5_frontier_209 : decode cX5_frontier 209 = .ok (.iload 6, 2) := by decide +kernel
theorem dX5_frontier_211 : decode cX5_frontier 211 = .ok (.iconst 0, 1) := by decide +kernel
theorem dX5_frontier_212 : decode cX5_frontier 212 = .ok (.iastore, 1) := by decide +kernel
theorem dX5_frontier_213 : decode cX5_frontier 213 = .ok (.iinc 6 1, 3) := by decide +kernel
theorem dX5_frontier_216 : decode cX5_frontier 216 = .ok (.goto (-17), 3) := by decide +kernel
theorem dX5_frontier_219 : decode cX5_frontier 219 = .ok (.aload_n 0, 1) := by decide +kernel
theorem dX5_frontier_220 : decode cX5_frontier 220 = .ok (.aload_n 0, 1) := by decide +kernel
theorem dX5_frontier_221 : decode cX5_frontier 221 = .ok (.invokevirtual 154, 3) := by decide +kernel
theorem dX5_frontier_224 : decode cX5_frontier 224 = .ok (.putfield 158, 3) := by decide +kernel
theorem dX5_frontier_227 : decode cX5_frontier 227 = .ok (.aload_n 0, 1) := by decide +kernel
theorem dX5_frontier_228 : decode cX5_frontier 228 = .ok (.bipush 7, 2) := by decide +kernel
theorem dX5_frontier_230 : decode cX5_frontier 230 = .ok (.putfield 161, 3) := by decide +kernel
theorem dX5_frontier_233 : decode cX5_frontier 233 = .ok (.aload_n 0, 1) := by decide +kernel
theorem dX5_frontier_234 : decode cX5_frontier 234 = .ok (.iconst 0, 1) := by decide +kernel
theorem dX5_frontier_235 : decode cX5_frontier 235 = .ok (.putfield 164, 3) := by decide +kernel
theorem dX5_frontier_238 : decode cX5_frontier 238 = .ok (.aload_n 0, 1) := by decide +kernel
theorem dX5_frontier_239 : decode cX5_frontier 239 = .ok (.aload_n 0, 1) := by decide +kernel
theorem dX5_frontier_240 : decode cX5_frontier 240 = .ok (.getfield 95, 3) := by decide +kernel
theorem dX5_frontier_243 : decode cX5_frontier 243 = .ok (.invokevirtual 141, 3) := by decide +kernel
theorem dX5_frontier_246 : decode cX5_frontier 246 = .ok (.ireturn, 1) := by decide +kernel
theorem dX5_gradeOf_0 : decode cX5_gradeOf 0 = .ok (.aload_n 0, 1) := by decide +kernel
theorem dX5_gradeOf_1 : decode cX5_gradeOf 1 = .ok (.getfield 22, 3) := by decide +kernel
theorem dX5_gradeOf_4 : decode cX5_gradeOf 4 = .ok (.iload_n 1, 1) := by decide +kernel
theorem dX5_gradeOf_5 : decode cX5_gradeOf 5 = .ok (.iaload, 1) := by decide +kernel
theorem dX5_gradeOf_6 : decode cX5_gradeOf 6 = .ok (.istore_n 2, 1) := by decide +kernel
theorem dX5_gradeOf_7 : decode cX5_gradeOf 7 = .ok (.aload_n 0, 1) := by decide +kernel
theorem dX5_gradeOf_8 : decode cX5_gradeOf 8 = .ok (.getfield 16, 3) := by decide +kernel
theorem dX5_gradeOf_11 : decode cX5_gradeOf 11 = .ok (.iload_n 1, 1) := by decide +kernel
theorem dX5_gradeOf_12 : decode cX5_gradeOf 12 = .ok (.iaload, 1) := by decide +kernel
theorem dX5_gradeOf_13 : decode cX5_gradeOf 13 = .ok (.ifCond .ne 7, 3) := by decide +kernel
theorem dX5_gradeOf_16 : decode cX5_gradeOf 16 = .ok (.iload_n 2, 1) := by decide +kernel
theorem dX5_gradeOf_17 : decode cX5_gradeOf 17 = .ok (.goto 24, 3) := by decide +kernel
theorem dX5_gradeOf_20 : decode cX5_gradeOf 20 = .ok (.aload_n 0, 1) := by decide +kernel
theorem dX5_gradeOf_21 : decode cX5_gradeOf 21 = .ok (.getfield 16, 3) := by decide +kernel
theorem dX5_gradeOf_24 : decode cX5_gradeOf 24 = .ok (.iload_n 1, 1) := by decide +kernel
theorem dX5_gradeOf_25 : decode cX5_gradeOf 25 = .ok (.iaload, 1) := by decide +kernel
theorem dX5_gradeOf_26 : decode cX5_gradeOf 26 = .ok (.iconst 1, 1) := by decide +kernel
theorem dX5_gradeOf_27 : decode cX5_gradeOf 27 = .ok (.if_icmp .ne 9, 3) := by decide +kernel
theorem dX5_gradeOf_30 : decode cX5_gradeOf 30 = .ok (.iload_n 2, 1) := by decide +kernel
theorem dX5_gradeOf_31 : decode cX5_gradeOf 31 = .ok (.iconst 1, 1) := by decide +kernel
theorem dX5_gradeOf_32 : decode cX5_gradeOf 32 = .ok (.iadd, 1) := by decide +kernel
theorem dX5_gradeOf_33 : decode cX5_gradeOf 33 = .ok (.goto 8, 3) := by decide +kernel
theorem dX5_gradeOf_36 : decode cX5_gradeOf 36 = .ok (.iconst 2, 1) := by decide +kernel
theorem dX5_gradeOf_37 : decode cX5_gradeOf 37 = .ok (.iload_n 2, 1) := by decide +kernel
theorem dX5_gradeOf_38 : decode cX5_gradeOf 38 = .ok (.iconst 1, 1) := by decide +kernel
theorem dX5_gradeOf_39 : decode cX5_gradeOf 39 = .ok (.iadd, 1) := by decide +kernel
theorem dX5_gradeOf_40 : decode cX5_gradeOf 40 = .ok (.imul, 1) := by decide +kernel
theorem dX5_gradeOf_41 : decode cX5_gradeOf 41 = .ok (.ireturn, 1) := by decide +kernel
theorem dX5_isDutiable_0 : decode cX5_isDutiable 0 = .ok (.iload_n 1, 1) := by decide +kernel
theorem dX5_isDutiable_1 : decode cX5_isDutiable 1 = .ok (.aload_n 0, 1) := by decide +kernel
theorem dX5_isDutiable_2 : decode cX5_isDutiable 2 = .ok (.getfield 73, 3) := by decide +kernel
theorem dX5_isDutiable_5 : decode cX5_isDutiable 5 = .ok (.if_icmp .eq 23, 3) := by decide +kernel
theorem dX5_isDutiable_8 : decode cX5_isDutiable 8 = .ok (.aload_n 0, 1) := by decide +kernel
theorem dX5_isDutiable_9 : decode cX5_isDutiable 9 = .ok (.getfield 161, 3) := by decide +kernel
theorem dX5_isDutiable_12 : decode cX5_isDutiable 12 = .ok (.aload_n 0, 1) := by decide +kernel
theorem dX5_isDutiable_13 : decode cX5_isDutiable 13 = .ok (.getfield 16, 3) := by decide +kernel
theorem dX5_isDutiable_16 : decode cX5_isDutiable 16 = .ok (.iload_n 1, 1) := by decide +kernel
theorem dX5_isDutiable_17 : decode cX5_isDutiable 17 = .ok (.iaload, 1) := by decide +kernel
theorem dX5_isDutiable_18 : decode cX5_isDutiable 18 = .ok (.invokestatic 167, 3) := by decide +kernel
theorem dX5_isDutiable_21 : decode cX5_isDutiable 21 = .ok (.ifCond .eq 7, 3) := by decide +kernel
theorem dX5_isDutiable_24 : decode cX5_isDutiable 24 = .ok (.iconst 1, 1) := by decide +kernel
theorem dX5_isDutiable_25 : decode cX5_isDutiable 25 = .ok (.goto 4, 3) := by decide +kernel
theorem dX5_isDutiable_28 : decode cX5_isDutiable 28 = .ok (.iconst 0, 1) := by decide +kernel
theorem dX5_isDutiable_29 : decode cX5_isDutiable 29 = .ok (.ireturn, 1) := by decide +kernel
theorem dX5_ofPost_0 : decode cX5_ofPost 0 = .ok (.aload_n 0, 1) := by decide +kernel
theorem dX5_ofPost_1 : decode cX5_ofPost 1 = .ok (.iload_n 1, 1) := by decide +kernel
theorem dX5_ofPost_2 : decode cX5_ofPost 2 = .ok (.invokevirtual 170, 3) := by decide +kernel
theorem dX5_ofPost_5 : decode cX5_ofPost 5 = .ok (.ifCond .eq 5, 3) := by decide +kernel
theorem dX5_ofPost_8 : decode cX5_ofPost 8 = .ok (.iconst (-1), 1) := by decide +kernel
theorem dX5_ofPost_9 : decode cX5_ofPost 9 = .ok (.ireturn, 1) := by decide +kernel
theorem dX5_ofPost_10 : decode cX5_ofPost 10 = .ok (.iload_n 2, 1) := by decide +kernel
theorem dX5_ofPost_11 : decode cX5_ofPost 11 = .ok (.ifCond .ne 12, 3) := by decide +kernel
theorem dX5_ofPost_14 : decode cX5_ofPost 14 = .ok (.aload_n 0, 1) := by decide +kernel
theorem dX5_ofPost_15 : decode cX5_ofPost 15 = .ok (.getfield 7, 3) := by decide +kernel
theorem dX5_ofPost_18 : decode cX5_ofPost 18 = .ok (.iload_n 1, 1) := by decide +kernel
theorem dX5_ofPost_19 : decode cX5_ofPost 19 = .ok (.iaload, 1) := by decide +kernel
theorem dX5_ofPost_20 : decode cX5_ofPost 20 = .ok (.goto 19, 3) := by decide +kernel
theorem dX5_ofPost_23 : decode cX5_ofPost 23 = .ok (.iload_n 2, 1) := by decide +kernel
theorem dX5_ofPost_24 : decode cX5_ofPost 24 = .ok (.iconst 1, 1) := by decide +kernel
theorem dX5_ofPost_25 : decode cX5_ofPost 25 = .ok (.if_icmp .ne 12, 3) := by decide +kernel
theorem dX5_ofPost_28 : decode cX5_ofPost 28 = .ok (.aload_n 0, 1) := by decide +kernel
theorem dX5_ofPost_29 : decode cX5_ofPost 29 = .ok (.getfield 13, 3) := by decide +kernel
theorem dX5_ofPost_32 : decode cX5_ofPost 32 = .ok (.iload_n 1, 1) := by decide +kernel
theorem dX5_ofPost_33 : decode cX5_ofPost 33 = .ok (.iaload, 1) := by decide +kernel
theorem dX5_ofPost_34 : decode cX5_ofPost 34 = .ok (.goto 5, 3) := by decide +kernel
theorem dX5_ofPost_37 : decode cX5_ofPost 37 = .ok (.bipush (-2), 2) := by decide +kernel
theorem dX5_ofPost_39 : decode cX5_ofPost 39 = .ok (.ireturn, 1) := by decide +kernel
theorem dX5_ofSilence_0 : decode cX5_ofSilence 0 = .ok (.aload_n 0, 1) := by decide +kernel
theorem dX5_ofSilence_1 : decode cX5_ofSilence 1 = .ok (.iload_n 1, 1) := by decide +kernel
theorem dX5_ofSilence_2 : decode cX5_ofSilence 2 = .ok (.invokevirtual 173, 3) := by decide +kernel
theorem dX5_ofSilence_5 : decode cX5_ofSilence 5 = .ok (.ifCond .eq 5, 3) := by decide +kernel
theorem dX5_ofSilence_8 : decode cX5_ofSilence 8 = .ok (.iconst (-1), 1) := by decide +kernel
theorem dX5_ofSilence_9 : decode cX5_ofSilence 9 = .ok (.ireturn, 1) := by decide +kernel
theorem dX5_ofSilence_10 : decode cX5_ofSilence 10 = .ok (.iload_n 2, 1) := by decide +kernel
theorem dX5_ofSilence_11 : decode cX5_ofSilence 11 = .ok (.tableswitch 123 0 7 #[45, 52, 59, 66, 72, 85, 92, 109], 45) := by decide +kernel
theorem dX5_ofSilence_56 : decode cX5_ofSilence 56 = .ok (.aload_n 0, 1) := by decide +kernel
theorem dX5_ofSilence_57 : decode cX5_ofSilence 57 = .ok (.getfield 16, 3) := by decide +kernel
theorem dX5_ofSilence_60 : decode cX5_ofSilence 60 = .ok (.iload_n 1, 1) := by decide +kernel
theorem dX5_ofSilence_61 : decode cX5_ofSilence 61 = .ok (.iaload, 1) := by decide +kernel
theorem dX5_ofSilence_62 : decode cX5_ofSilence 62 = .ok (.ireturn, 1) := by decide +kernel
theorem dX5_ofSilence_63 : decode cX5_ofSilence 63 = .ok (.aload_n 0, 1) := by decide +kernel
theorem dX5_ofSilence_64 : decode cX5_ofSilence 64 = .ok (.getfield 19, 3) := by decide +kernel
theorem dX5_ofSilence_67 : decode cX5_ofSilence 67 = .ok (.iload_n 1, 1) := by decide +kernel
theorem dX5_ofSilence_68 : decode cX5_ofSilence 68 = .ok (.iaload, 1) := by decide +kernel
theorem dX5_ofSilence_69 : decode cX5_ofSilence 69 = .ok (.ireturn, 1) := by decide +kernel
theorem dX5_ofSilence_70 : decode cX5_ofSilence 70 = .ok (.aload_n 0, 1) := by decide +kernel
theorem dX5_ofSilence_71 : decode cX5_ofSilence 71 = .ok (.getfield 22, 3) := by decide +kernel
theorem dX5_ofSilence_74 : decode cX5_ofSilence 74 = .ok (.iload_n 1, 1) := by decide +kernel
theorem dX5_ofSilence_75 : decode cX5_ofSilence 75 = .ok (.iaload, 1) := by decide +kernel
theorem dX5_ofSilence_76 : decode cX5_ofSilence 76 = .ok (.ireturn, 1) := by decide +kernel
theorem dX5_ofSilence_77 : decode cX5_ofSilence 77 = .ok (.aload_n 0, 1) := by decide +kernel
theorem dX5_ofSilence_78 : decode cX5_ofSilence 78 = .ok (.iload_n 1, 1) := by decide +kernel
theorem dX5_ofSilence_79 : decode cX5_ofSilence 79 = .ok (.invokevirtual 176, 3) := by decide +kernel
theorem dX5_ofSilence_82 : decode cX5_ofSilence 82 = .ok (.ireturn, 1) := by decide +kernel
theorem dX5_ofSilence_83 : decode cX5_ofSilence 83 = .ok (.aload_n 0, 1) := by decide +kernel
theorem dX5_ofSilence_84 : decode cX5_ofSilence 84 = .ok (.getfield 19, 3) := by decide +kernel
theorem dX5_ofSilence_87 : decode cX5_ofSilence 87 = .ok (.iload_n 1, 1) := by decide +kernel
theorem dX5_ofSilence_88 : decode cX5_ofSilence 88 = .ok (.iaload, 1) := by decide +kernel
theorem dX5_ofSilence_89 : decode cX5_ofSilence 89 = .ok (.aload_n 0, 1) := by decide +kernel
theorem dX5_ofSilence_90 : decode cX5_ofSilence 90 = .ok (.iload_n 1, 1) := by decide +kernel
theorem dX5_ofSilence_91 : decode cX5_ofSilence 91 = .ok (.invokevirtual 176, 3) := by decide +kernel
theorem dX5_ofSilence_94 : decode cX5_ofSilence 94 = .ok (.imul, 1) := by decide +kernel
theorem dX5_ofSilence_95 : decode cX5_ofSilence 95 = .ok (.ireturn, 1) := by decide +kernel
theorem dX5_ofSilence_96 : decode cX5_ofSilence 96 = .ok (.aload_n 0, 1) := by decide +kernel
theorem dX5_ofSilence_97 : decode cX5_ofSilence 97 = .ok (.getfield 25, 3) := by decide +kernel
theorem dX5_ofSilence_100 : decode cX5_ofSilence 100 = .ok (.iload_n 1, 1) := by decide +kernel
theorem dX5_ofSilence_101 : decode cX5_ofSilence 101 = .ok (.iaload, 1) := by decide +kernel
theorem dX5_ofSilence_102 : decode cX5_ofSilence 102 = .ok (.ireturn, 1) := by decide +kernel
theorem dX5_ofSilence_103 : decode cX5_ofSilence 103 = .ok (.aload_n 0, 1) := by decide +kernel
theorem dX5_ofSilence_104 : decode cX5_ofSilence 104 = .ok (.getfield 158, 3) := by decide +kernel
theorem dX5_ofSilence_107 : decode cX5_ofSilence 107 = .ok (.iload_n 1, 1) := by decide +kernel
theorem dX5_ofSilence_108 : decode cX5_ofSilence 108 = .ok (.invokestatic 167, 3) := by decide +kernel
theorem dX5_ofSilence_111 : decode cX5_ofSilence 111 = .ok (.ifCond .eq 7, 3) := by decide +kernel
theorem dX5_ofSilence_114 : decode cX5_ofSilence 114 = .ok (.iconst 1, 1) := by decide +kernel
theorem dX5_ofSilence_115 : decode cX5_ofSilence 115 = .ok (.goto 4, 3) := by decide +kernel
theorem dX5_ofSilence_118 : decode cX5_ofSilence 118 = .ok (.iconst 0, 1) := by decide +kernel
theorem dX5_ofSilence_119 : decode cX5_ofSilence 119 = .ok (.ireturn, 1) := by decide +kernel
theorem dX5_ofSilence_120 : decode cX5_ofSilence 120 = .ok (.aload_n 0, 1) := by decide +kernel
theorem dX5_ofSilence_121 : decode cX5_ofSilence 121 = .ok (.iload_n 1, 1) := by decide +kernel
theorem dX5_ofSilence_122 : decode cX5_ofSilence 122 = .ok (.invokevirtual 179, 3) := by decide +kernel
theorem dX5_ofSilence_125 : decode cX5_ofSilence 125 = .ok (.ifCond .eq 7, 3) := by decide +kernel
theorem dX5_ofSilence_128 : decode cX5_ofSilence 128 = .ok (.iconst 1, 1) := by decide +kernel
theorem dX5_ofSilence_129 : decode cX5_ofSilence 129 = .ok (.goto 4, 3) := by decide +kernel
theorem dX5_ofSilence_132 : decode cX5_ofSilence 132 = .ok (.iconst 0, 1) := by decide +kernel
theorem dX5_ofSilence_133 : decode cX5_ofSilence 133 = .ok (.ireturn, 1) := by decide +kernel
theorem dX5_ofSilence_134 : decode cX5_ofSilence 134 = .ok (.bipush (-2), 2) := by decide +kernel
theorem dX5_ofSilence_136 : decode cX5_ofSilence 136 = .ok (.ireturn, 1) := by decide +kernel
theorem dX5_free_0 : decode cX5_free 0 = .ok (.iload_n 1, 1) := by decide +kernel
theorem dX5_free_1 : decode cX5_free 1 = .ok (.i2l, 1) := by decide +kernel
theorem dX5_free_2 : decode cX5_free 2 = .ok (.lconst 0, 1) := by decide +kernel
theorem dX5_free_3 : decode cX5_free 3 = .ok (.ldc2_w 107, 3) := by decide +kernel
theorem dX5_free_6 : decode cX5_free 6 = .ok (.invokestatic 91, 3) := by decide +kernel
theorem dX5_free_9 : decode cX5_free 9 = .ok (.ifCond .ne 6, 3) := by decide +kernel
theorem dX5_free_12 : decode cX5_free 12 = .ok (.bipush (-2), 2) := by decide +kernel
theorem dX5_free_14 : decode cX5_free 14 = .ok (.ireturn, 1) := by decide +kernel
theorem dX5_free_15 : decode cX5_free 15 = .ok (.aload_n 0, 1) := by decide +kernel
theorem dX5_free_16 : decode cX5_free 16 = .ok (.getfield 95, 3) := by decide +kernel
theorem dX5_free_19 : decode cX5_free 19 = .ok (.ifCond .ne 6, 3) := by decide +kernel
theorem dX5_free_22 : decode cX5_free 22 = .ok (.bipush (-3), 2) := by decide +kernel
theorem dX5_free_24 : decode cX5_free 24 = .ok (.ireturn, 1) := by decide +kernel
theorem dX5_free_25 : decode cX5_free 25 = .ok (.aload_n 0, 1) := by decide +kernel
theorem dX5_free_26 : decode cX5_free 26 = .ok (.getfield 151, 3) := by decide +kernel
theorem dX5_free_29 : decode cX5_free 29 = .ok (.istore_n 2, 1) := by decide +kernel
theorem dX5_free_30 : decode cX5_free 30 = .ok (.aload_n 0, 1) := by decide +kernel
theorem dX5_free_31 : decode cX5_free 31 = .ok (.iload_n 1, 1) := by decide +kernel
theorem dX5_free_32 : decode cX5_free 32 = .ok (.putfield 151, 3) := by decide +kernel
theorem dX5_free_35 : decode cX5_free 35 = .ok (.iload_n 2, 1) := by decide +kernel
theorem dX5_free_36 : decode cX5_free 36 = .ok (.ireturn, 1) := by decide +kernel
theorem dX5_law_0 : decode cX5_law 0 = .ok (.iload_n 1, 1) := by decide +kernel
theorem dX5_law_1 : decode cX5_law 1 = .ok (.i2l, 1) := by decide +kernel
theorem dX5_law_2 : decode cX5_law 2 = .ok (.lconst 0, 1) := by decide +kernel
theorem dX5_law_3 : decode cX5_law 3 = .ok (.ldc2_w 182, 3) := by decide +kernel
theorem dX5_law_6 : decode cX5_law 6 = .ok (.invokestatic 91, 3) := by decide +kernel
theorem dX5_law_9 : decode cX5_law 9 = .ok (.ifCond .ne 6, 3) := by decide +kernel
theorem dX5_law_12 : decode cX5_law 12 = .ok (.bipush (-2), 2) := by decide +kernel
theorem dX5_law_14 : decode cX5_law 14 = .ok (.ireturn, 1) := by decide +kernel
theorem dX5_law_15 : decode cX5_law 15 = .ok (.aload_n 0, 1) := by decide +kernel
theorem dX5_law_16 : decode cX5_law 16 = .ok (.getfield 95, 3) := by decide +kernel
theorem dX5_law_19 : decode cX5_law 19 = .ok (.ifCond .ne 6, 3) := by decide +kernel
theorem dX5_law_22 : decode cX5_law 22 = .ok (.bipush (-3), 2) := by decide +kernel
theorem dX5_law_24 : decode cX5_law 24 = .ok (.ireturn, 1) := by decide +kernel
theorem dX5_law_25 : decode cX5_law 25 = .ok (.aload_n 0, 1) := by decide +kernel
theorem dX5_law_26 : decode cX5_law 26 = .ok (.getfield 161, 3) := by decide +kernel
theorem dX5_law_29 : decode cX5_law 29 = .ok (.istore_n 2, 1) := by decide +kernel
theorem dX5_law_30 : decode cX5_law 30 = .ok (.aload_n 0, 1) := by decide +kernel
theorem dX5_law_31 : decode cX5_law 31 = .ok (.iload_n 1, 1) := by decide +kernel
theorem dX5_law_32 : decode cX5_law 32 = .ok (.putfield 161, 3) := by decide +kernel
theorem dX5_law_35 : decode cX5_law 35 = .ok (.iload_n 2, 1) := by decide +kernel
theorem dX5_law_36 : decode cX5_law 36 = .ok (.ireturn, 1) := by decide +kernel
theorem dX5_carry_0 : decode cX5_carry 0 = .ok (.aload_n 0, 1) := by decide +kernel
theorem dX5_carry_1 : decode cX5_carry 1 = .ok (.iload_n 1, 1) := by decide +kernel
theorem dX5_carry_2 : decode cX5_carry 2 = .ok (.invokevirtual 173, 3) := by decide +kernel
theorem dX5_carry_5 : decode cX5_carry 5 = .ok (.ifCond .ne 10, 3) := by decide +kernel
theorem dX5_carry_8 : decode cX5_carry 8 = .ok (.iload_n 2, 1) := by decide +kernel
theorem dX5_carry_9 : decode cX5_carry 9 = .ok (.invokestatic 184, 3) := by decide +kernel
theorem dX5_carry_12 : decode cX5_carry 12 = .ok (.ifCond .eq 5, 3) := by decide +kernel
theorem dX5_carry_15 : decode cX5_carry 15 = .ok (.iconst (-1), 1) := by decide +kernel
theorem dX5_carry_16 : decode cX5_carry 16 = .ok (.ireturn, 1) := by decide +kernel
theorem dX5_carry_17 : decode cX5_carry 17 = .ok (.aload_n 0, 1) := by decide +kernel
theorem dX5_carry_18 : decode cX5_carry 18 = .ok (.getfield 25, 3) := by decide +kernel
theorem dX5_carry_21 : decode cX5_carry 21 = .ok (.iload_n 1, 1) := by decide +kernel
theorem dX5_carry_22 : decode cX5_carry 22 = .ok (.iaload, 1) := by decide +kernel
theorem dX5_carry_23 : decode cX5_carry 23 = .ok (.istore_n 3, 1) := by decide +kernel
theorem dX5_carry_24 : decode cX5_carry 24 = .ok (.aload_n 0, 1) := by decide +kernel
theorem dX5_carry_25 : decode cX5_carry 25 = .ok (.getfield 25, 3) := by decide +kernel
theorem dX5_carry_28 : decode cX5_carry 28 = .ok (.iload_n 1, 1) := by decide +kernel
theorem dX5_carry_29 : decode cX5_carry 29 = .ok (.iload_n 2, 1) := by decide +kernel
theorem dX5_carry_30 : decode cX5_carry 30 = .ok (.iastore, 1) := by decide +kernel
theorem dX5_carry_31 : decode cX5_carry 31 = .ok (.iload_n 3, 1) := by decide +kernel
theorem dX5_carry_32 : decode cX5_carry 32 = .ok (.ireturn, 1) := by decide +kernel
theorem dX5_declare_0 : decode cX5_declare 0 = .ok (.aload_n 0, 1) := by decide +kernel
theorem dX5_declare_1 : decode cX5_declare 1 = .ok (.iload_n 1, 1) := by decide +kernel
theorem dX5_declare_2 : decode cX5_declare 2 = .ok (.invokevirtual 173, 3) := by decide +kernel
theorem dX5_declare_5 : decode cX5_declare 5 = .ok (.ifCond .eq 5, 3) := by decide +kernel
theorem dX5_declare_8 : decode cX5_declare 8 = .ok (.iconst (-1), 1) := by decide +kernel
theorem dX5_declare_9 : decode cX5_declare 9 = .ok (.ireturn, 1) := by decide +kernel
theorem dX5_declare_10 : decode cX5_declare 10 = .ok (.aload_n 0, 1) := by decide +kernel
theorem dX5_declare_11 : decode cX5_declare 11 = .ok (.getfield 158, 3) := by decide +kernel
theorem dX5_declare_14 : decode cX5_declare 14 = .ok (.iload_n 1, 1) := by decide +kernel
theorem dX5_declare_15 : decode cX5_declare 15 = .ok (.invokestatic 167, 3) := by decide +kernel
theorem dX5_declare_18 : decode cX5_declare 18 = .ok (.istore_n 3, 1) := by decide +kernel
theorem dX5_declare_19 : decode cX5_declare 19 = .ok (.aload_n 0, 1) := by decide +kernel
theorem dX5_declare_20 : decode cX5_declare 20 = .ok (.iload_n 2, 1) := by decide +kernel
theorem dX5_declare_21 : decode cX5_declare 21 = .ok (.ifCond .eq 14, 3) := by decide +kernel
theorem dX5_declare_24 : decode cX5_declare 24 = .ok (.aload_n 0, 1) := by decide +kernel
theorem dX5_declare_25 : decode cX5_declare 25 = .ok (.getfield 158, 3) := by decide +kernel
theorem dX5_declare_28 : decode cX5_declare 28 = .ok (.iconst 1, 1) := by decide +kernel
theorem dX5_declare_29 : decode cX5_declare 29 = .ok (.iload_n 1, 1) := by decide +kernel
theorem dX5_declare_30 : decode cX5_declare 30 = .ok (.ishl, 1) := by decide +kernel
theorem dX5_declare_31 : decode cX5_declare 31 = .ok (.ior, 1) := by decide +kernel
theorem dX5_declare_32 : decode cX5_declare 32 = .ok (.goto 13, 3) := by decide +kernel
theorem dX5_declare_35 : decode cX5_declare 35 = .ok (.aload_n 0, 1) := by decide +kernel
theorem dX5_declare_36 : decode cX5_declare 36 = .ok (.getfield 158, 3) := by decide +kernel
theorem dX5_declare_39 : decode cX5_declare 39 = .ok (.iconst 1, 1) := by decide +kernel
theorem dX5_declare_40 : decode cX5_declare 40 = .ok (.iload_n 1, 1) := by decide +kernel
theorem dX5_declare_41 : decode cX5_declare 41 = .ok (.ishl, 1) := by decide +kernel
theorem dX5_declare_42 : decode cX5_declare 42 = .ok (.iconst (-1), 1) := by decide +kernel
theorem dX5_declare_43 : decode cX5_declare 43 = .ok (.ixor, 1) := by decide +kernel
theorem dX5_declare_44 : decode cX5_declare 44 = .ok (.iand, 1) := by decide +kernel
theorem dX5_declare_45 : decode cX5_declare 45 = .ok (.putfield 158, 3) := by decide +kernel
theorem dX5_declare_48 : decode cX5_declare 48 = .ok (.iload_n 3, 1) := by decide +kernel
theorem dX5_declare_49 : decode cX5_declare 49 = .ok (.iload_n 2, 1) := by decide +kernel
theorem dX5_declare_50 : decode cX5_declare 50 = .ok (.if_icmp .ne 7, 3) := by decide +kernel
theorem dX5_declare_53 : decode cX5_declare 53 = .ok (.iconst 0, 1) := by decide +kernel
theorem dX5_declare_54 : decode cX5_declare 54 = .ok (.goto 4, 3) := by decide +kernel
theorem dX5_declare_57 : decode cX5_declare 57 = .ok (.iconst 1, 1) := by decide +kernel
theorem dX5_declare_58 : decode cX5_declare 58 = .ok (.ireturn, 1) := by decide +kernel
theorem dX5_hum_0 : decode cX5_hum 0 = .ok (.iload_n 1, 1) := by decide +kernel
theorem dX5_hum_1 : decode cX5_hum 1 = .ok (.invokestatic 184, 3) := by decide +kernel
theorem dX5_hum_4 : decode cX5_hum 4 = .ok (.ifCond .eq 5, 3) := by decide +kernel
theorem dX5_hum_7 : decode cX5_hum 7 = .ok (.iconst (-1), 1) := by decide +kernel
theorem dX5_hum_8 : decode cX5_hum 8 = .ok (.ireturn, 1) := by decide +kernel
theorem dX5_hum_9 : decode cX5_hum 9 = .ok (.iload_n 2, 1) := by decide +kernel
theorem dX5_hum_10 : decode cX5_hum 10 = .ok (.i2l, 1) := by decide +kernel
theorem dX5_hum_11 : decode cX5_hum 11 = .ok (.lconst 0, 1) := by decide +kernel
theorem dX5_hum_12 : decode cX5_hum 12 = .ok (.ldc2_w 107, 3) := by decide +kernel
theorem dX5_hum_15 : decode cX5_hum 15 = .ok (.invokestatic 91, 3) := by decide +kernel
theorem dX5_hum_18 : decode cX5_hum 18 = .ok (.ifCond .ne 6, 3) := by decide +kernel
theorem dX5_hum_21 : decode cX5_hum 21 = .ok (.bipush (-2), 2) := by decide +kernel
theorem dX5_hum_23 : decode cX5_hum 23 = .ok (.ireturn, 1) := by decide +kernel
theorem dX5_hum_24 : decode cX5_hum 24 = .ok (.aload_n 0, 1) := by decide +kernel
theorem dX5_hum_25 : decode cX5_hum 25 = .ok (.getfield 95, 3) := by decide +kernel
theorem dX5_hum_28 : decode cX5_hum 28 = .ok (.ifCond .ne 6, 3) := by decide +kernel
theorem dX5_hum_31 : decode cX5_hum 31 = .ok (.bipush (-3), 2) := by decide +kernel
theorem dX5_hum_33 : decode cX5_hum 33 = .ok (.ireturn, 1) := by decide +kernel
theorem dX5_hum_34 : decode cX5_hum 34 = .ok (.aload_n 0, 1) := by decide +kernel
theorem dX5_hum_35 : decode cX5_hum 35 = .ok (.getfield 28, 3) := by decide +kernel
theorem dX5_hum_38 : decode cX5_hum 38 = .ok (.iload_n 1, 1) := by decide +kernel
theorem dX5_hum_39 : decode cX5_hum 39 = .ok (.iaload, 1) := by decide +kernel
theorem dX5_hum_40 : decode cX5_hum 40 = .ok (.istore_n 3, 1) := by decide +kernel
theorem dX5_hum_41 : decode cX5_hum 41 = .ok (.aload_n 0, 1) := by decide +kernel
theorem dX5_hum_42 : decode cX5_hum 42 = .ok (.getfield 28, 3) := by decide +kernel
theorem dX5_hum_45 : decode cX5_hum 45 = .ok (.iload_n 1, 1) := by decide +kernel
theorem dX5_hum_46 : decode cX5_hum 46 = .ok (.iload_n 2, 1) := by decide +kernel
theorem dX5_hum_47 : decode cX5_hum 47 = .ok (.iastore, 1) := by decide +kernel
theorem dX5_hum_48 : decode cX5_hum 48 = .ok (.iload_n 3, 1) := by decide +kernel
theorem dX5_hum_49 : decode cX5_hum 49 = .ok (.ireturn, 1) := by decide +kernel
theorem dX5_dutyOf_0 : decode cX5_dutyOf 0 = .ok (.iconst 0, 1) := by decide +kernel
theorem dX5_dutyOf_1 : decode cX5_dutyOf 1 = .ok (.istore_n 3, 1) := by decide +kernel
theorem dX5_dutyOf_2 : decode cX5_dutyOf 2 = .ok (.iconst 0, 1) := by decide +kernel
theorem dX5_dutyOf_3 : decode cX5_dutyOf 3 = .ok (.istore 4, 2) := by decide +kernel
theorem dX5_dutyOf_5 : decode cX5_dutyOf 5 = .ok (.iconst 0, 1) := by decide +kernel
theorem dX5_dutyOf_6 : decode cX5_dutyOf 6 = .ok (.istore 5, 2) := by decide +kernel
theorem dX5_dutyOf_8 : decode cX5_dutyOf 8 = .ok (.iload 5, 2) := by decide +kernel
theorem dX5_dutyOf_10 : decode cX5_dutyOf 10 = .ok (.aload_n 0, 1) := by decide +kernel
theorem dX5_dutyOf_11 : decode cX5_dutyOf 11 = .ok (.getfield 95, 3) := by decide +kernel
theorem dX5_dutyOf_14 : decode cX5_dutyOf 14 = .ok (.if_icmp .ge 75, 3) := by decide +kernel
theorem dX5_dutyOf_17 : decode cX5_dutyOf 17 = .ok (.aload_n 0, 1) := by decide +kernel
theorem dX5_dutyOf_18 : decode cX5_dutyOf 18 = .ok (.getfield 25, 3) := by decide +kernel
theorem dX5_dutyOf_21 : decode cX5_dutyOf 21 = .ok (.iload 5, 2) := by decide +kernel
theorem dX5_dutyOf_23 : decode cX5_dutyOf 23 = .ok (.iaload, 1) := by decide +kernel
theorem dX5_dutyOf_24 : decode cX5_dutyOf 24 = .ok (.iload_n 2, 1) := by decide +kernel
theorem dX5_dutyOf_25 : decode cX5_dutyOf 25 = .ok (.if_icmp .ne 58, 3) := by decide +kernel
theorem dX5_dutyOf_28 : decode cX5_dutyOf 28 = .ok (.aload_n 0, 1) := by decide +kernel
theorem dX5_dutyOf_29 : decode cX5_dutyOf 29 = .ok (.getfield 158, 3) := by decide +kernel
theorem dX5_dutyOf_32 : decode cX5_dutyOf 32 = .ok (.iload 5, 2) := by decide +kernel
theorem dX5_dutyOf_34 : decode cX5_dutyOf 34 = .ok (.invokestatic 167, 3) := by decide +kernel
theorem dX5_dutyOf_37 : decode cX5_dutyOf 37 = .ok (.ifCond .eq 46, 3) := by decide +kernel
theorem dX5_dutyOf_40 : decode cX5_dutyOf 40 = .ok (.aload_n 0, 1) := by decide +kernel
theorem dX5_dutyOf_41 : decode cX5_dutyOf 41 = .ok (.iload 5, 2) := by decide +kernel
theorem dX5_dutyOf_43 : decode cX5_dutyOf 43 = .ok (.invokevirtual 179, 3) := by decide +kernel
theorem dX5_dutyOf_46 : decode cX5_dutyOf 46 = .ok (.ifCond .eq 37, 3) := by decide +kernel
theorem dX5_dutyOf_49 : decode cX5_dutyOf 49 = .ok (.iload_n 3, 1) := by decide +kernel
theorem dX5_dutyOf_50 : decode cX5_dutyOf 50 = .ok (.aload_n 0, 1) := by decide +kernel
theorem dX5_dutyOf_51 : decode cX5_dutyOf 51 = .ok (.getfield 19, 3) := by decide +kernel
theorem dX5_dutyOf_54 : decode cX5_dutyOf 54 = .ok (.iload 5, 2) := by decide +kernel
theorem dX5_dutyOf_56 : decode cX5_dutyOf 56 = .ok (.iaload, 1) := by decide +kernel
theorem dX5_dutyOf_57 : decode cX5_dutyOf 57 = .ok (.iadd, 1) := by decide +kernel
theorem dX5_dutyOf_58 : decode cX5_dutyOf 58 = .ok (.istore_n 3, 1) := by decide +kernel
theorem dX5_dutyOf_59 : decode cX5_dutyOf 59 = .ok (.aload_n 0, 1) := by decide +kernel
theorem dX5_dutyOf_60 : decode cX5_dutyOf 60 = .ok (.iload 5, 2) := by decide +kernel
theorem dX5_dutyOf_62 : decode cX5_dutyOf 62 = .ok (.invokevirtual 176, 3) := by decide +kernel
theorem dX5_dutyOf_65 : decode cX5_dutyOf 65 = .ok (.iload 4, 2) := by decide +kernel
theorem dX5_dutyOf_67 : decode cX5_dutyOf 67 = .ok (.if_icmp .le 12, 3) := by decide +kernel
theorem dX5_dutyOf_70 : decode cX5_dutyOf 70 = .ok (.aload_n 0, 1) := by decide +kernel
theorem dX5_dutyOf_71 : decode cX5_dutyOf 71 = .ok (.iload 5, 2) := by decide +kernel
theorem dX5_dutyOf_73 : decode cX5_dutyOf 73 = .ok (.invokevirtual 176, 3) := by decide +kernel
theorem dX5_dutyOf_76 : decode cX5_dutyOf 76 = .ok (.goto 5, 3) := by decide +kernel
theorem dX5_dutyOf_79 : decode cX5_dutyOf 79 = .ok (.iload 4, 2) := by decide +kernel
theorem dX5_dutyOf_81 : decode cX5_dutyOf 81 = .ok (.istore 4, 2) := by decide +kernel
theorem dX5_dutyOf_83 : decode cX5_dutyOf 83 = .ok (.iinc 5 1, 3) := by decide +kernel
theorem dX5_dutyOf_86 : decode cX5_dutyOf 86 = .ok (.goto (-78), 3) := by decide +kernel
theorem dX5_dutyOf_89 : decode cX5_dutyOf 89 = .ok (.iload_n 3, 1) := by decide +kernel
theorem dX5_dutyOf_90 : decode cX5_dutyOf 90 = .ok (.aload_n 0, 1) := by decide +kernel
theorem dX5_dutyOf_91 : decode cX5_dutyOf 91 = .ok (.getfield 151, 3) := by decide +kernel
theorem dX5_dutyOf_94 : decode cX5_dutyOf 94 = .ok (.if_icmp .le 22, 3) := by decide +kernel
theorem dX5_dutyOf_97 : decode cX5_dutyOf 97 = .ok (.iload_n 3, 1) := by decide +kernel
theorem dX5_dutyOf_98 : decode cX5_dutyOf 98 = .ok (.aload_n 0, 1) := by decide +kernel
theorem dX5_dutyOf_99 : decode cX5_dutyOf 99 = .ok (.getfield 151, 3) := by decide +kernel
theorem dX5_dutyOf_102 : decode cX5_dutyOf 102 = .ok (.isub, 1) := by decide +kernel
theorem dX5_dutyOf_103 : decode cX5_dutyOf 103 = .ok (.iload 4, 2) := by decide +kernel
theorem dX5_dutyOf_105 : decode cX5_dutyOf 105 = .ok (.imul, 1) := by decide +kernel
theorem dX5_dutyOf_106 : decode cX5_dutyOf 106 = .ok (.aload_n 0, 1) := by decide +kernel
theorem dX5_dutyOf_107 : decode cX5_dutyOf 107 = .ok (.getfield 7, 3) := by decide +kernel
theorem dX5_dutyOf_110 : decode cX5_dutyOf 110 = .ok (.iload_n 1, 1) := by decide +kernel
theorem dX5_dutyOf_111 : decode cX5_dutyOf 111 = .ok (.iaload, 1) := by decide +kernel
theorem dX5_dutyOf_112 : decode cX5_dutyOf 112 = .ok (.imul, 1) := by decide +kernel
theorem dX5_dutyOf_113 : decode cX5_dutyOf 113 = .ok (.goto 4, 3) := by decide +kernel
theorem dX5_dutyOf_116 : decode cX5_dutyOf 116 = .ok (.iconst 0, 1) := by decide +kernel
theorem dX5_dutyOf_117 : decode cX5_dutyOf 117 = .ok (.ireturn, 1) := by decide +kernel
theorem dX5_dutyAt_0 : decode cX5_dutyAt 0 = .ok (.iconst 0, 1) := by decide +kernel
theorem dX5_dutyAt_1 : decode cX5_dutyAt 1 = .ok (.istore_n 2, 1) := by decide +kernel
theorem dX5_dutyAt_2 : decode cX5_dutyAt 2 = .ok (.iconst 0, 1) := by decide +kernel
theorem dX5_dutyAt_3 : decode cX5_dutyAt 3 = .ok (.istore_n 3, 1) := by decide +kernel
theorem dX5_dutyAt_4 : decode cX5_dutyAt 4 = .ok (.iload_n 3, 1) := by decide +kernel
theorem dX5_dutyAt_5 : decode cX5_dutyAt 5 = .ok (.iconst 3, 1) := by decide +kernel
theorem dX5_dutyAt_6 : decode cX5_dutyAt 6 = .ok (.if_icmp .ge 18, 3) := by decide +kernel
theorem dX5_dutyAt_9 : decode cX5_dutyAt 9 = .ok (.iload_n 2, 1) := by decide +kernel
theorem dX5_dutyAt_10 : decode cX5_dutyAt 10 = .ok (.aload_n 0, 1) := by decide +kernel
theorem dX5_dutyAt_11 : decode cX5_dutyAt 11 = .ok (.iload_n 1, 1) := by decide +kernel
theorem dX5_dutyAt_12 : decode cX5_dutyAt 12 = .ok (.iload_n 3, 1) := by decide +kernel
theorem dX5_dutyAt_13 : decode cX5_dutyAt 13 = .ok (.invokevirtual 187, 3) := by decide +kernel
theorem dX5_dutyAt_16 : decode cX5_dutyAt 16 = .ok (.iadd, 1) := by decide +kernel
theorem dX5_dutyAt_17 : decode cX5_dutyAt 17 = .ok (.istore_n 2, 1) := by decide +kernel
theorem dX5_dutyAt_18 : decode cX5_dutyAt 18 = .ok (.iinc 3 1, 3) := by decide +kernel
theorem dX5_dutyAt_21 : decode cX5_dutyAt 21 = .ok (.goto (-17), 3) := by decide +kernel
theorem dX5_dutyAt_24 : decode cX5_dutyAt 24 = .ok (.iload_n 2, 1) := by decide +kernel
theorem dX5_dutyAt_25 : decode cX5_dutyAt 25 = .ok (.ireturn, 1) := by decide +kernel
theorem dX5_duty_0 : decode cX5_duty 0 = .ok (.aload_n 0, 1) := by decide +kernel
theorem dX5_duty_1 : decode cX5_duty 1 = .ok (.iload_n 1, 1) := by decide +kernel
theorem dX5_duty_2 : decode cX5_duty 2 = .ok (.invokevirtual 170, 3) := by decide +kernel
theorem dX5_duty_5 : decode cX5_duty 5 = .ok (.ifCond .eq 7, 3) := by decide +kernel
theorem dX5_duty_8 : decode cX5_duty 8 = .ok (.iconst (-1), 1) := by decide +kernel
theorem dX5_duty_9 : decode cX5_duty 9 = .ok (.goto 8, 3) := by decide +kernel
theorem dX5_duty_12 : decode cX5_duty 12 = .ok (.aload_n 0, 1) := by decide +kernel
theorem dX5_duty_13 : decode cX5_duty 13 = .ok (.iload_n 1, 1) := by decide +kernel
theorem dX5_duty_14 : decode cX5_duty 14 = .ok (.invokevirtual 190, 3) := by decide +kernel
theorem dX5_duty_17 : decode cX5_duty 17 = .ok (.ireturn, 1) := by decide +kernel
theorem dX5_heardAt_0 : decode cX5_heardAt 0 = .ok (.aload_n 0, 1) := by decide +kernel
theorem dX5_heardAt_1 : decode cX5_heardAt 1 = .ok (.getfield 13, 3) := by decide +kernel
theorem dX5_heardAt_4 : decode cX5_heardAt 4 = .ok (.iload_n 2, 1) := by decide +kernel
theorem dX5_heardAt_5 : decode cX5_heardAt 5 = .ok (.iaload, 1) := by decide +kernel
theorem dX5_heardAt_6 : decode cX5_heardAt 6 = .ok (.aload_n 0, 1) := by decide +kernel
theorem dX5_heardAt_7 : decode cX5_heardAt 7 = .ok (.getfield 28, 3) := by decide +kernel
theorem dX5_heardAt_10 : decode cX5_heardAt 10 = .ok (.aload_n 0, 1) := by decide +kernel
theorem dX5_heardAt_11 : decode cX5_heardAt 11 = .ok (.getfield 25, 3) := by decide +kernel
theorem dX5_heardAt_14 : decode cX5_heardAt 14 = .ok (.iload_n 1, 1) := by decide +kernel
theorem dX5_heardAt_15 : decode cX5_heardAt 15 = .ok (.iaload, 1) := by decide +kernel
theorem dX5_heardAt_16 : decode cX5_heardAt 16 = .ok (.iaload, 1) := by decide +kernel
theorem dX5_heardAt_17 : decode cX5_heardAt 17 = .ok (.isub, 1) := by decide +kernel
theorem dX5_heardAt_18 : decode cX5_heardAt 18 = .ok (.istore_n 3, 1) := by decide +kernel
theorem dX5_heardAt_19 : decode cX5_heardAt 19 = .ok (.iload_n 3, 1) := by decide +kernel
theorem dX5_heardAt_20 : decode cX5_heardAt 20 = .ok (.ifCond .le 26, 3) := by decide +kernel
theorem dX5_heardAt_23 : decode cX5_heardAt 23 = .ok (.aload_n 0, 1) := by decide +kernel
theorem dX5_heardAt_24 : decode cX5_heardAt 24 = .ok (.getfield 158, 3) := by decide +kernel
theorem dX5_heardAt_27 : decode cX5_heardAt 27 = .ok (.iload_n 1, 1) := by decide +kernel
theorem dX5_heardAt_28 : decode cX5_heardAt 28 = .ok (.invokestatic 167, 3) := by decide +kernel
theorem dX5_heardAt_31 : decode cX5_heardAt 31 = .ok (.ifCond .ne 15, 3) := by decide +kernel
theorem dX5_heardAt_34 : decode cX5_heardAt 34 = .ok (.aload_n 0, 1) := by decide +kernel
theorem dX5_heardAt_35 : decode cX5_heardAt 35 = .ok (.iload_n 1, 1) := by decide +kernel
theorem dX5_heardAt_36 : decode cX5_heardAt 36 = .ok (.invokevirtual 179, 3) := by decide +kernel
theorem dX5_heardAt_39 : decode cX5_heardAt 39 = .ok (.ifCond .eq 7, 3) := by decide +kernel
theorem dX5_heardAt_42 : decode cX5_heardAt 42 = .ok (.iload_n 3, 1) := by decide +kernel
theorem dX5_heardAt_43 : decode cX5_heardAt 43 = .ok (.goto 4, 3) := by decide +kernel
theorem dX5_heardAt_46 : decode cX5_heardAt 46 = .ok (.iconst 0, 1) := by decide +kernel
theorem dX5_heardAt_47 : decode cX5_heardAt 47 = .ok (.ireturn, 1) := by decide +kernel
theorem dX5_clear_0 : decode cX5_clear 0 = .ok (.aload_n 0, 1) := by decide +kernel
theorem dX5_clear_1 : decode cX5_clear 1 = .ok (.iload_n 1, 1) := by decide +kernel
theorem dX5_clear_2 : decode cX5_clear 2 = .ok (.invokevirtual 170, 3) := by decide +kernel
theorem dX5_clear_5 : decode cX5_clear 5 = .ok (.ifCond .ne 13, 3) := by decide +kernel
theorem dX5_clear_8 : decode cX5_clear 8 = .ok (.iload_n 2, 1) := by decide +kernel
theorem dX5_clear_9 : decode cX5_clear 9 = .ok (.i2l, 1) := by decide +kernel
theorem dX5_clear_10 : decode cX5_clear 10 = .ok (.lconst 0, 1) := by decide +kernel
theorem dX5_clear_11 : decode cX5_clear 11 = .ok (.lconst 1, 1) := by decide +kernel
theorem dX5_clear_12 : decode cX5_clear 12 = .ok (.invokestatic 91, 3) := by decide +kernel
theorem dX5_clear_15 : decode cX5_clear 15 = .ok (.ifCond .ne 7, 3) := by decide +kernel
theorem dX5_clear_18 : decode cX5_clear 18 = .ok (.invokestatic 84, 3) := by decide +kernel
theorem dX5_clear_21 : decode cX5_clear 21 = .ok (.lreturn, 1) := by decide +kernel
theorem dX5_clear_22 : decode cX5_clear 22 = .ok (.lconst 1, 1) := by decide +kernel
theorem dX5_clear_23 : decode cX5_clear 23 = .ok (.lstore_n 3, 1) := by decide +kernel
theorem dX5_clear_24 : decode cX5_clear 24 = .ok (.iconst 0, 1) := by decide +kernel
theorem dX5_clear_25 : decode cX5_clear 25 = .ok (.istore 5, 2) := by decide +kernel
theorem dX5_clear_27 : decode cX5_clear 27 = .ok (.iload 5, 2) := by decide +kernel
theorem dX5_clear_29 : decode cX5_clear 29 = .ok (.aload_n 0, 1) := by decide +kernel
theorem dX5_clear_30 : decode cX5_clear 30 = .ok (.getfield 95, 3) := by decide +kernel
theorem dX5_clear_33 : decode cX5_clear 33 = .ok (.if_icmp .ge 24, 3) := by decide +kernel
theorem dX5_clear_36 : decode cX5_clear 36 = .ok (.lload_n 3, 1) := by decide +kernel
theorem dX5_clear_37 : decode cX5_clear 37 = .ok (.ldc2_w 79, 3) := by decide +kernel
theorem dX5_clear_40 : decode cX5_clear 40 = .ok (.aload_n 0, 1) := by decide +kernel
theorem dX5_clear_41 : decode cX5_clear 41 = .ok (.iload 5, 2) := by decide +kernel
theorem dX5_clear_43 : decode cX5_clear 43 = .ok (.iload_n 1, 1) := by decide +kernel
theorem dX5_clear_44 : decode cX5_clear 44 = .ok (.invokevirtual 193, 3) := by decide +kernel
theorem dX5_clear_47 : decode cX5_clear 47 = .ok (.i2l, 1) := by decide +kernel
theorem dX5_clear_48 : decode cX5_clear 48 = .ok (.lsub, 1) := by decide +kernel
theorem dX5_clear_49 : decode cX5_clear 49 = .ok (.lmul, 1) := by decide +kernel
theorem dX5_clear_50 : decode cX5_clear 50 = .ok (.lstore_n 3, 1) := by decide +kernel
theorem dX5_clear_51 : decode cX5_clear 51 = .ok (.iinc 5 1, 3) := by decide +kernel
theorem dX5_clear_54 : decode cX5_clear 54 = .ok (.goto (-27), 3) := by decide +kernel
theorem dX5_clear_57 : decode cX5_clear 57 = .ok (.lload_n 3, 1) := by decide +kernel
theorem dX5_clear_58 : decode cX5_clear 58 = .ok (.aload_n 0, 1) := by decide +kernel
theorem dX5_clear_59 : decode cX5_clear 59 = .ok (.getfield 95, 3) := by decide +kernel
theorem dX5_clear_62 : decode cX5_clear 62 = .ok (.invokestatic 196, 3) := by decide +kernel
theorem dX5_clear_65 : decode cX5_clear 65 = .ok (.iload_n 2, 1) := by decide +kernel
theorem dX5_clear_66 : decode cX5_clear 66 = .ok (.invokestatic 200, 3) := by decide +kernel
theorem dX5_clear_69 : decode cX5_clear 69 = .ok (.lreturn, 1) := by decide +kernel
theorem dX5_costNow_0 : decode cX5_costNow 0 = .ok (.lconst 0, 1) := by decide +kernel
theorem dX5_costNow_1 : decode cX5_costNow 1 = .ok (.lstore_n 2, 1) := by decide +kernel
theorem dX5_costNow_2 : decode cX5_costNow 2 = .ok (.iconst 0, 1) := by decide +kernel
theorem dX5_costNow_3 : decode cX5_costNow 3 = .ok (.istore 4, 2) := by decide +kernel
theorem dX5_costNow_5 : decode cX5_costNow 5 = .ok (.iload 4, 2) := by decide +kernel
theorem dX5_costNow_7 : decode cX5_costNow 7 = .ok (.iload_n 1, 1) := by decide +kernel
theorem dX5_costNow_8 : decode cX5_costNow 8 = .ok (.if_icmp .ge 29, 3) := by decide +kernel
theorem dX5_costNow_11 : decode cX5_costNow 11 = .ok (.lload_n 2, 1) := by decide +kernel
theorem dX5_costNow_12 : decode cX5_costNow 12 = .ok (.aload_n 0, 1) := by decide +kernel
theorem dX5_costNow_13 : decode cX5_costNow 13 = .ok (.aload_n 0, 1) := by decide +kernel
theorem dX5_costNow_14 : decode cX5_costNow 14 = .ok (.getfield 46, 3) := by decide +kernel
theorem dX5_costNow_17 : decode cX5_costNow 17 = .ok (.iload 4, 2) := by decide +kernel
theorem dX5_costNow_19 : decode cX5_costNow 19 = .ok (.iaload, 1) := by decide +kernel
theorem dX5_costNow_20 : decode cX5_costNow 20 = .ok (.invokevirtual 190, 3) := by decide +kernel
theorem dX5_costNow_23 : decode cX5_costNow 23 = .ok (.i2l, 1) := by decide +kernel
theorem dX5_costNow_24 : decode cX5_costNow 24 = .ok (.iload_n 1, 1) := by decide +kernel
theorem dX5_costNow_25 : decode cX5_costNow 25 = .ok (.invokestatic 196, 3) := by decide +kernel
theorem dX5_costNow_28 : decode cX5_costNow 28 = .ok (.lmul, 1) := by decide +kernel
theorem dX5_costNow_29 : decode cX5_costNow 29 = .ok (.ladd, 1) := by decide +kernel
theorem dX5_costNow_30 : decode cX5_costNow 30 = .ok (.lstore_n 2, 1) := by decide +kernel
theorem dX5_costNow_31 : decode cX5_costNow 31 = .ok (.iinc 4 1, 3) := by decide +kernel
theorem dX5_costNow_34 : decode cX5_costNow 34 = .ok (.goto (-29), 3) := by decide +kernel
theorem dX5_costNow_37 : decode cX5_costNow 37 = .ok (.iconst 0, 1) := by decide +kernel
theorem dX5_costNow_38 : decode cX5_costNow 38 = .ok (.istore 4, 2) := by decide +kernel
theorem dX5_costNow_40 : decode cX5_costNow 40 = .ok (.iload 4, 2) := by decide +kernel
theorem dX5_costNow_42 : decode cX5_costNow 42 = .ok (.aload_n 0, 1) := by decide +kernel
theorem dX5_costNow_43 : decode cX5_costNow 43 = .ok (.getfield 95, 3) := by decide +kernel
theorem dX5_costNow_46 : decode cX5_costNow 46 = .ok (.if_icmp .ge 109, 3) := by decide +kernel
theorem dX5_costNow_49 : decode cX5_costNow 49 = .ok (.lconst 1, 1) := by decide +kernel
theorem dX5_costNow_50 : decode cX5_costNow 50 = .ok (.lstore 5, 2) := by decide +kernel
theorem dX5_costNow_52 : decode cX5_costNow 52 = .ok (.iconst 0, 1) := by decide +kernel
theorem dX5_costNow_53 : decode cX5_costNow 53 = .ok (.istore 7, 2) := by decide +kernel
theorem dX5_costNow_55 : decode cX5_costNow 55 = .ok (.iload 7, 2) := by decide +kernel
theorem dX5_costNow_57 : decode cX5_costNow 57 = .ok (.iload_n 1, 1) := by decide +kernel
theorem dX5_costNow_58 : decode cX5_costNow 58 = .ok (.if_icmp .ge 91, 3) := by decide +kernel
theorem dX5_costNow_61 : decode cX5_costNow 61 = .ok (.aload_n 0, 1) := by decide +kernel
theorem dX5_costNow_62 : decode cX5_costNow 62 = .ok (.getfield 46, 3) := by decide +kernel
theorem dX5_costNow_65 : decode cX5_costNow 65 = .ok (.iload 7, 2) := by decide +kernel
theorem dX5_costNow_67 : decode cX5_costNow 67 = .ok (.iaload, 1) := by decide +kernel
theorem dX5_costNow_68 : decode cX5_costNow 68 = .ok (.istore 8, 2) := by decide +kernel
theorem dX5_costNow_70 : decode cX5_costNow 70 = .ok (.lload_n 2, 1) := by decide +kernel
theorem dX5_costNow_71 : decode cX5_costNow 71 = .ok (.lload 5, 2) := by decide +kernel
theorem dX5_costNow_73 : decode cX5_costNow 73 = .ok (.aload_n 0, 1) := by decide +kernel
theorem dX5_costNow_74 : decode cX5_costNow 74 = .ok (.iload 4, 2) := by decide +kernel
theorem dX5_costNow_76 : decode cX5_costNow 76 = .ok (.iload 8, 2) := by decide +kernel
theorem dX5_costNow_78 : decode cX5_costNow 78 = .ok (.invokevirtual 193, 3) := by decide +kernel
theorem dX5_costNow_81 : decode cX5_costNow 81 = .ok (.i2l, 1) := by decide +kernel
theorem dX5_costNow_82 : decode cX5_costNow 82 = .ok (.lmul, 1) := by decide +kernel
theorem dX5_costNow_83 : decode cX5_costNow 83 = .ok (.iload_n 1, 1) := by decide +kernel
theorem dX5_costNow_84 : decode cX5_costNow 84 = .ok (.iload 7, 2) := by decide +kernel
theorem dX5_costNow_86 : decode cX5_costNow 86 = .ok (.isub, 1) := by decide +kernel
theorem dX5_costNow_87 : decode cX5_costNow 87 = .ok (.iconst 1, 1) := by decide +kernel
theorem dX5_costNow_88 : decode cX5_costNow 88 = .ok (.isub, 1) := by decide +kernel
theorem dX5_costNow_89 : decode cX5_costNow 89 = .ok (.invokestatic 196, 3) := by decide +kernel
theorem dX5_costNow_92 : decode cX5_costNow 92 = .ok (.lmul, 1) := by decide +kernel
theorem dX5_costNow_93 : decode cX5_costNow 93 = .ok (.ldc2_w 98, 3) := by decide +kernel
theorem dX5_costNow_96 : decode cX5_costNow 96 = .ok (.aload_n 0, 1) := by decide +kernel
theorem dX5_costNow_97 : decode cX5_costNow 97 = .ok (.getfield 19, 3) := by decide +kernel
theorem dX5_costNow_100 : decode cX5_costNow 100 = .ok (.iload 4, 2) := by decide +kernel
theorem dX5_costNow_102 : decode cX5_costNow 102 = .ok (.iaload, 1) := by decide +kernel
theorem dX5_costNow_103 : decode cX5_costNow 103 = .ok (.i2l, 1) := by decide +kernel
theorem dX5_costNow_104 : decode cX5_costNow 104 = .ok (.lmul, 1) := by decide +kernel
theorem dX5_costNow_105 : decode cX5_costNow 105 = .ok (.aload_n 0, 1) := by decide +kernel
theorem dX5_costNow_106 : decode cX5_costNow 106 = .ok (.iload 4, 2) := by decide +kernel
theorem dX5_costNow_108 : decode cX5_costNow 108 = .ok (.invokevirtual 176, 3) := by decide +kernel
theorem dX5_costNow_111 : decode cX5_costNow 111 = .ok (.i2l, 1) := by decide +kernel
theorem dX5_costNow_112 : decode cX5_costNow 112 = .ok (.lmul, 1) := by decide +kernel
theorem dX5_costNow_113 : decode cX5_costNow 113 = .ok (.aload_n 0, 1) := by decide +kernel
theorem dX5_costNow_114 : decode cX5_costNow 114 = .ok (.getfield 7, 3) := by decide +kernel
theorem dX5_costNow_117 : decode cX5_costNow 117 = .ok (.iload 8, 2) := by decide +kernel
theorem dX5_costNow_119 : decode cX5_costNow 119 = .ok (.iaload, 1) := by decide +kernel
theorem dX5_costNow_120 : decode cX5_costNow 120 = .ok (.i2l, 1) := by decide +kernel
theorem dX5_costNow_121 : decode cX5_costNow 121 = .ok (.lmul, 1) := by decide +kernel
theorem dX5_costNow_122 : decode cX5_costNow 122 = .ok (.lmul, 1) := by decide +kernel
theorem dX5_costNow_123 : decode cX5_costNow 123 = .ok (.ladd, 1) := by decide +kernel
theorem dX5_costNow_124 : decode cX5_costNow 124 = .ok (.lstore_n 2, 1) := by decide +kernel
theorem dX5_costNow_125 : decode cX5_costNow 125 = .ok (.lload 5, 2) := by decide +kernel
theorem dX5_costNow_127 : decode cX5_costNow 127 = .ok (.ldc2_w 79, 3) := by decide +kernel
theorem dX5_costNow_130 : decode cX5_costNow 130 = .ok (.aload_n 0, 1) := by decide +kernel
theorem dX5_costNow_131 : decode cX5_costNow 131 = .ok (.iload 4, 2) := by decide +kernel
theorem dX5_costNow_133 : decode cX5_costNow 133 = .ok (.iload 8, 2) := by decide +kernel
theorem dX5_costNow_135 : decode cX5_costNow 135 = .ok (.invokevirtual 193, 3) := by decide +kernel
theorem dX5_costNow_138 : decode cX5_costNow 138 = .ok (.i2l, 1) := by decide +kernel
theorem dX5_costNow_139 : decode cX5_costNow 139 = .ok (.lsub, 1) := by decide +kernel
theorem dX5_costNow_140 : decode cX5_costNow 140 = .ok (.lmul, 1) := by decide +kernel
theorem dX5_costNow_141 : decode cX5_costNow 141 = .ok (.lstore 5, 2) := by decide +kernel
theorem dX5_costNow_143 : decode cX5_costNow 143 = .ok (.iinc 7 1, 3) := by decide +kernel
theorem dX5_costNow_146 : decode cX5_costNow 146 = .ok (.goto (-91), 3) := by decide +kernel
theorem dX5_costNow_149 : decode cX5_costNow 149 = .ok (.iinc 4 1, 3) := by decide +kernel
theorem dX5_costNow_152 : decode cX5_costNow 152 = .ok (.goto (-112), 3) := by decide +kernel
theorem dX5_costNow_155 : decode cX5_costNow 155 = .ok (.lload_n 2, 1) := by decide +kernel
theorem dX5_costNow_156 : decode cX5_costNow 156 = .ok (.lreturn, 1) := by decide +kernel
theorem dX5_wayBarred_0 : decode cX5_wayBarred 0 = .ok (.aload_n 0, 1) := by decide +kernel
theorem dX5_wayBarred_1 : decode cX5_wayBarred 1 = .ok (.iload_n 1, 1) := by decide +kernel
theorem dX5_wayBarred_2 : decode cX5_wayBarred 2 = .ok (.iload_n 2, 1) := by decide +kernel
theorem dX5_wayBarred_3 : decode cX5_wayBarred 3 = .ok (.iload_n 3, 1) := by decide +kernel
theorem dX5_wayBarred_4 : decode cX5_wayBarred 4 = .ok (.iload 4, 2) := by decide +kernel
theorem dX5_wayBarred_6 : decode cX5_wayBarred 6 = .ok (.i2l, 1) := by decide +kernel
theorem dX5_wayBarred_7 : decode cX5_wayBarred 7 = .ok (.invokevirtual 144, 3) := by decide +kernel
theorem dX5_wayBarred_10 : decode cX5_wayBarred 10 = .ok (.istore 5, 2) := by decide +kernel
theorem dX5_wayBarred_12 : decode cX5_wayBarred 12 = .ok (.iload 5, 2) := by decide +kernel
theorem dX5_wayBarred_14 : decode cX5_wayBarred 14 = .ok (.ifCond .ge 6, 3) := by decide +kernel
theorem dX5_wayBarred_17 : decode cX5_wayBarred 17 = .ok (.iload 5, 2) := by decide +kernel
theorem dX5_wayBarred_19 : decode cX5_wayBarred 19 = .ok (.ireturn, 1) := by decide +kernel
theorem dX5_wayBarred_20 : decode cX5_wayBarred 20 = .ok (.iconst 0, 1) := by decide +kernel
theorem dX5_wayBarred_21 : decode cX5_wayBarred 21 = .ok (.istore 6, 2) := by decide +kernel
theorem dX5_wayBarred_23 : decode cX5_wayBarred 23 = .ok (.iload 6, 2) := by decide +kernel
theorem dX5_wayBarred_25 : decode cX5_wayBarred 25 = .ok (.iload 4, 2) := by decide +kernel
theorem dX5_wayBarred_27 : decode cX5_wayBarred 27 = .ok (.if_icmp .ge 50, 3) := by decide +kernel
theorem dX5_wayBarred_30 : decode cX5_wayBarred 30 = .ok (.aload_n 0, 1) := by decide +kernel
theorem dX5_wayBarred_31 : decode cX5_wayBarred 31 = .ok (.getfield 46, 3) := by decide +kernel
theorem dX5_wayBarred_34 : decode cX5_wayBarred 34 = .ok (.iload 6, 2) := by decide +kernel
theorem dX5_wayBarred_36 : decode cX5_wayBarred 36 = .ok (.aload_n 0, 1) := by decide +kernel
theorem dX5_wayBarred_37 : decode cX5_wayBarred 37 = .ok (.getfield 67, 3) := by decide +kernel
theorem dX5_wayBarred_40 : decode cX5_wayBarred 40 = .ok (.bipush 60, 2) := by decide +kernel
theorem dX5_wayBarred_42 : decode cX5_wayBarred 42 = .ok (.iload_n 1, 1) := by decide +kernel
theorem dX5_wayBarred_43 : decode cX5_wayBarred 43 = .ok (.imul, 1) := by decide +kernel
theorem dX5_wayBarred_44 : decode cX5_wayBarred 44 = .ok (.iload_n 3, 1) := by decide +kernel
theorem dX5_wayBarred_45 : decode cX5_wayBarred 45 = .ok (.iadd, 1) := by decide +kernel
theorem dX5_wayBarred_46 : decode cX5_wayBarred 46 = .ok (.iload 6, 2) := by decide +kernel
theorem dX5_wayBarred_48 : decode cX5_wayBarred 48 = .ok (.iadd, 1) := by decide +kernel
theorem dX5_wayBarred_49 : decode cX5_wayBarred 49 = .ok (.iaload, 1) := by decide +kernel
theorem dX5_wayBarred_50 : decode cX5_wayBarred 50 = .ok (.iastore, 1) := by decide +kernel
theorem dX5_wayBarred_51 : decode cX5_wayBarred 51 = .ok (.aload_n 0, 1) := by decide +kernel
theorem dX5_wayBarred_52 : decode cX5_wayBarred 52 = .ok (.aload_n 0, 1) := by decide +kernel
theorem dX5_wayBarred_53 : decode cX5_wayBarred 53 = .ok (.getfield 46, 3) := by decide +kernel
theorem dX5_wayBarred_56 : decode cX5_wayBarred 56 = .ok (.iload 6, 2) := by decide +kernel
theorem dX5_wayBarred_58 : decode cX5_wayBarred 58 = .ok (.iaload, 1) := by decide +kernel
theorem dX5_wayBarred_59 : decode cX5_wayBarred 59 = .ok (.invokevirtual 170, 3) := by decide +kernel
theorem dX5_wayBarred_62 : decode cX5_wayBarred 62 = .ok (.ifCond .eq 9, 3) := by decide +kernel
theorem dX5_wayBarred_65 : decode cX5_wayBarred 65 = .ok (.aload_n 0, 1) := by decide +kernel
theorem dX5_wayBarred_66 : decode cX5_wayBarred 66 = .ok (.iconst (-1), 1) := by decide +kernel
theorem dX5_wayBarred_67 : decode cX5_wayBarred 67 = .ok (.invokevirtual 141, 3) := by decide +kernel
theorem dX5_wayBarred_70 : decode cX5_wayBarred 70 = .ok (.ireturn, 1) := by decide +kernel
theorem dX5_wayBarred_71 : decode cX5_wayBarred 71 = .ok (.iinc 6 1, 3) := by decide +kernel
theorem dX5_wayBarred_74 : decode cX5_wayBarred 74 = .ok (.goto (-51), 3) := by decide +kernel
theorem dX5_wayBarred_77 : decode cX5_wayBarred 77 = .ok (.aload_n 0, 1) := by decide +kernel
theorem dX5_wayBarred_78 : decode cX5_wayBarred 78 = .ok (.iconst 0, 1) := by decide +kernel
theorem dX5_wayBarred_79 : decode cX5_wayBarred 79 = .ok (.invokevirtual 141, 3) := by decide +kernel
theorem dX5_wayBarred_82 : decode cX5_wayBarred 82 = .ok (.ireturn, 1) := by decide +kernel
theorem dX5_refusedLong_0 : decode cX5_refusedLong 0 = .ok (.aload_n 0, 1) := by decide +kernel
theorem dX5_refusedLong_1 : decode cX5_refusedLong 1 = .ok (.iconst 0, 1) := by decide +kernel
theorem dX5_refusedLong_2 : decode cX5_refusedLong 2 = .ok (.putfield 81, 3) := by decide +kernel
theorem dX5_refusedLong_5 : decode cX5_refusedLong 5 = .ok (.invokestatic 84, 3) := by decide +kernel
theorem dX5_refusedLong_8 : decode cX5_refusedLong 8 = .ok (.lreturn, 1) := by decide +kernel
theorem dX5_cost_0 : decode cX5_cost 0 = .ok (.iload_n 1, 1) := by decide +kernel
theorem dX5_cost_1 : decode cX5_cost 1 = .ok (.invokestatic 137, 3) := by decide +kernel
theorem dX5_cost_4 : decode cX5_cost 4 = .ok (.ifCond .ne 46, 3) := by decide +kernel
theorem dX5_cost_7 : decode cX5_cost 7 = .ok (.iload_n 2, 1) := by decide +kernel
theorem dX5_cost_8 : decode cX5_cost 8 = .ok (.i2l, 1) := by decide +kernel
theorem dX5_cost_9 : decode cX5_cost 9 = .ok (.lconst 0, 1) := by decide +kernel
theorem dX5_cost_10 : decode cX5_cost 10 = .ok (.ldc2_w 98, 3) := by decide +kernel
theorem dX5_cost_13 : decode cX5_cost 13 = .ok (.invokestatic 91, 3) := by decide +kernel
theorem dX5_cost_16 : decode cX5_cost 16 = .ok (.ifCond .eq 34, 3) := by decide +kernel
theorem dX5_cost_19 : decode cX5_cost 19 = .ok (.iload 4, 2) := by decide +kernel
theorem dX5_cost_21 : decode cX5_cost 21 = .ok (.i2l, 1) := by decide +kernel
theorem dX5_cost_22 : decode cX5_cost 22 = .ok (.lconst 0, 1) := by decide +kernel
theorem dX5_cost_23 : decode cX5_cost 23 = .ok (.ldc2_w 204, 3) := by decide +kernel
theorem dX5_cost_26 : decode cX5_cost 26 = .ok (.invokestatic 91, 3) := by decide +kernel
theorem dX5_cost_29 : decode cX5_cost 29 = .ok (.ifCond .eq 21, 3) := by decide +kernel
theorem dX5_cost_32 : decode cX5_cost 32 = .ok (.iload 5, 2) := by decide +kernel
theorem dX5_cost_34 : decode cX5_cost 34 = .ok (.i2l, 1) := by decide +kernel
theorem dX5_cost_35 : decode cX5_cost 35 = .ok (.lconst 0, 1) := by decide +kernel
theorem dX5_cost_36 : decode cX5_cost 36 = .ok (.lconst 1, 1) := by decide +kernel
theorem dX5_cost_37 : decode cX5_cost 37 = .ok (.invokestatic 91, 3) := by decide +kernel
theorem dX5_cost_40 : decode cX5_cost 40 = .ok (.ifCond .eq 10, 3) := by decide +kernel
theorem dX5_cost_43 : decode cX5_cost 43 = .ok (.aload_n 0, 1) := by decide +kernel
theorem dX5_cost_44 : decode cX5_cost 44 = .ok (.getfield 95, 3) := by decide +kernel
theorem dX5_cost_47 : decode cX5_cost 47 = .ok (.ifCond .ne 8, 3) := by decide +kernel
theorem dX5_cost_50 : decode cX5_cost 50 = .ok (.aload_n 0, 1) := by decide +kernel
theorem dX5_cost_51 : decode cX5_cost 51 = .ok (.invokevirtual 206, 3) := by decide +kernel
theorem dX5_cost_54 : decode cX5_cost 54 = .ok (.lreturn, 1) := by decide +kernel
theorem dX5_cost_55 : decode cX5_cost 55 = .ok (.aload_n 0, 1) := by decide +kernel
theorem dX5_cost_56 : decode cX5_cost 56 = .ok (.iload_n 1, 1) := by decide +kernel
theorem dX5_cost_57 : decode cX5_cost 57 = .ok (.iload_n 2, 1) := by decide +kernel
theorem dX5_cost_58 : decode cX5_cost 58 = .ok (.iload_n 3, 1) := by decide +kernel
theorem dX5_cost_59 : decode cX5_cost 59 = .ok (.iload 4, 2) := by decide +kernel
theorem dX5_cost_61 : decode cX5_cost 61 = .ok (.invokevirtual 209, 3) := by decide +kernel
theorem dX5_cost_64 : decode cX5_cost 64 = .ok (.ifCond .ge 9, 3) := by decide +kernel
theorem dX5_cost_67 : decode cX5_cost 67 = .ok (.invokestatic 84, 3) := by decide +kernel
theorem dX5_cost_70 : decode cX5_cost 70 = .ok (.goto 19, 3) := by decide +kernel
theorem dX5_cost_73 : decode cX5_cost 73 = .ok (.aload_n 0, 1) := by decide +kernel
theorem dX5_cost_74 : decode cX5_cost 74 = .ok (.iload 4, 2) := by decide +kernel
theorem dX5_cost_76 : decode cX5_cost 76 = .ok (.invokevirtual 213, 3) := by decide +kernel
theorem dX5_cost_79 : decode cX5_cost 79 = .ok (.iload 4, 2) := by decide +kernel
theorem dX5_cost_81 : decode cX5_cost 81 = .ok (.invokestatic 196, 3) := by decide +kernel
theorem dX5_cost_84 : decode cX5_cost 84 = .ok (.iload 5, 2) := by decide +kernel
theorem dX5_cost_86 : decode cX5_cost 86 = .ok (.invokestatic 200, 3) := by decide +kernel
theorem dX5_cost_89 : decode cX5_cost 89 = .ok (.lreturn, 1) := by decide +kernel
theorem dX5_say_0 : decode cX5_say 0 = .ok (.iload_n 1, 1) := by decide +kernel
theorem dX5_say_1 : decode cX5_say 1 = .ok (.invokestatic 137, 3) := by decide +kernel
theorem dX5_say_4 : decode cX5_say 4 = .ok (.ifCond .eq 9, 3) := by decide +kernel
theorem dX5_say_7 : decode cX5_say 7 = .ok (.aload_n 0, 1) := by decide +kernel
theorem dX5_say_8 : decode cX5_say 8 = .ok (.iconst (-1), 1) := by decide +kernel
theorem dX5_say_9 : decode cX5_say 9 = .ok (.invokevirtual 141, 3) := by decide +kernel
theorem dX5_say_12 : decode cX5_say 12 = .ok (.ireturn, 1) := by decide +kernel
theorem dX5_say_13 : decode cX5_say 13 = .ok (.iload_n 2, 1) := by decide +kernel
theorem dX5_say_14 : decode cX5_say 14 = .ok (.i2l, 1) := by decide +kernel
theorem dX5_say_15 : decode cX5_say 15 = .ok (.lconst 0, 1) := by decide +kernel
theorem dX5_say_16 : decode cX5_say 16 = .ok (.ldc2_w 98, 3) := by decide +kernel
theorem dX5_say_19 : decode cX5_say 19 = .ok (.invokestatic 91, 3) := by decide +kernel
theorem dX5_say_22 : decode cX5_say 22 = .ok (.ifCond .eq 16, 3) := by decide +kernel
theorem dX5_say_25 : decode cX5_say 25 = .ok (.iload 4, 2) := by decide +kernel
theorem dX5_say_27 : decode cX5_say 27 = .ok (.i2l, 1) := by decide +kernel
theorem dX5_say_28 : decode cX5_say 28 = .ok (.lconst 0, 1) := by decide +kernel
theorem dX5_say_29 : decode cX5_say 29 = .ok (.ldc2_w 204, 3) := by decide +kernel
theorem dX5_say_32 : decode cX5_say 32 = .ok (.invokestatic 91, 3) := by decide +kernel
theorem dX5_say_35 : decode cX5_say 35 = .ok (.ifCond .ne 10, 3) := by decide +kernel
theorem dX5_say_38 : decode cX5_say 38 = .ok (.aload_n 0, 1) := by decide +kernel
theorem dX5_say_39 : decode cX5_say 39 = .ok (.bipush (-2), 2) := by decide +kernel
theorem dX5_say_41 : decode cX5_say 41 = .ok (.invokevirtual 141, 3) := by decide +kernel
theorem dX5_say_44 : decode cX5_say 44 = .ok (.ireturn, 1) := by decide +kernel
theorem dX5_say_45 : decode cX5_say 45 = .ok (.aload_n 0, 1) := by decide +kernel
theorem dX5_say_46 : decode cX5_say 46 = .ok (.getfield 95, 3) := by decide +kernel
theorem dX5_say_49 : decode cX5_say 49 = .ok (.ifCond .ne 10, 3) := by decide +kernel
theorem dX5_say_52 : decode cX5_say 52 = .ok (.aload_n 0, 1) := by decide +kernel
theorem dX5_say_53 : decode cX5_say 53 = .ok (.bipush (-3), 2) := by decide +kernel
theorem dX5_say_55 : decode cX5_say 55 = .ok (.invokevirtual 141, 3) := by decide +kernel
theorem dX5_say_58 : decode cX5_say 58 = .ok (.ireturn, 1) := by decide +kernel
theorem dX5_say_59 : decode cX5_say 59 = .ok (.aload_n 0, 1) := by decide +kernel
theorem dX5_say_60 : decode cX5_say 60 = .ok (.iload_n 1, 1) := by decide +kernel
theorem dX5_say_61 : decode cX5_say 61 = .ok (.iload_n 2, 1) := by decide +kernel
theorem dX5_say_62 : decode cX5_say 62 = .ok (.iload_n 3, 1) := by decide +kernel
theorem dX5_say_63 : decode cX5_say 63 = .ok (.iload 4, 2) := by decide +kernel
theorem dX5_say_65 : decode cX5_say 65 = .ok (.invokevirtual 209, 3) := by decide +kernel
theorem dX5_say_68 : decode cX5_say 68 = .ok (.istore 5, 2) := by decide +kernel
theorem dX5_say_70 : decode cX5_say 70 = .ok (.iload 5, 2) := by decide +kernel
theorem dX5_say_72 : decode cX5_say 72 = .ok (.ifCond .ge 6, 3) := by decide +kernel
theorem dX5_say_75 : decode cX5_say 75 = .ok (.iload 5, 2) := by decide +kernel
theorem dX5_say_77 : decode cX5_say 77 = .ok (.ireturn, 1) := by decide +kernel
theorem dX5_say_78 : decode cX5_say 78 = .ok (.aload_n 0, 1) := by decide +kernel
theorem dX5_say_79 : decode cX5_say 79 = .ok (.getfield 158, 3) := by decide +kernel
theorem dX5_say_82 : decode cX5_say 82 = .ok (.istore 6, 2) := by decide +kernel
theorem dX5_say_84 : decode cX5_say 84 = .ok (.bipush (-9), 2) := by decide +kernel
theorem dX5_say_86 : decode cX5_say 86 = .ok (.istore 7, 2) := by decide +kernel
theorem dX5_say_88 : decode cX5_say 88 = .ok (.lconst 0, 1) := by decide +kernel
theorem dX5_say_89 : decode cX5_say 89 = .ok (.lstore 8, 2) := by decide +kernel
theorem dX5_say_91 : decode cX5_say 91 = .ok (.iconst 0, 1) := by decide +kernel
theorem dX5_say_92 : decode cX5_say 92 = .ok (.istore 10, 2) := by decide +kernel
theorem dX5_say_94 : decode cX5_say 94 = .ok (.iload 10, 2) := by decide +kernel
theorem dX5_say_96 : decode cX5_say 96 = .ok (.aload_n 0, 1) := by decide +kernel
theorem dX5_say_97 : decode cX5_say 97 = .ok (.invokevirtual 154, 3) := by decide +kernel
theorem dX5_say_100 : decode cX5_say 100 = .ok (.if_icmp .gt 44, 3) := by decide +kernel
theorem dX5_say_103 : decode cX5_say 103 = .ok (.aload_n 0, 1) := by decide +kernel
theorem dX5_say_104 : decode cX5_say 104 = .ok (.iload 10, 2) := by decide +kernel
theorem dX5_say_106 : decode cX5_say 106 = .ok (.putfield 158, 3) := by decide +kernel
theorem dX5_say_109 : decode cX5_say 109 = .ok (.aload_n 0, 1) := by decide +kernel
theorem dX5_say_110 : decode cX5_say 110 = .ok (.iload 4, 2) := by decide +kernel
theorem dX5_say_112 : decode cX5_say 112 = .ok (.invokevirtual 213, 3) := by decide +kernel
theorem dX5_say_115 : decode cX5_say 115 = .ok (.lstore 11, 2) := by decide +kernel
theorem dX5_say_117 : decode cX5_say 117 = .ok (.iload 7, 2) := by decide +kernel
theorem dX5_say_119 : decode cX5_say 119 = .ok (.ifCond .lt 11, 3) := by decide +kernel
theorem dX5_say_122 : decode cX5_say 122 = .ok (.lload 11, 2) := by decide +kernel
theorem dX5_say_124 : decode cX5_say 124 = .ok (.lload 8, 2) := by decide +kernel
theorem dX5_say_126 : decode cX5_say 126 = .ok (.lcmp, 1) := by decide +kernel
theorem dX5_say_127 : decode cX5_say 127 = .ok (.ifCond .ge 11, 3) := by decide +kernel
theorem dX5_say_130 : decode cX5_say 130 = .ok (.iload 10, 2) := by decide +kernel
theorem dX5_say_132 : decode cX5_say 132 = .ok (.istore 7, 2) := by decide +kernel
theorem dX5_say_134 : decode cX5_say 134 = .ok (.lload 11, 2) := by decide +kernel
theorem dX5_say_136 : decode cX5_say 136 = .ok (.lstore 8, 2) := by decide +kernel
theorem dX5_say_138 : decode cX5_say 138 = .ok (.iinc 10 1, 3) := by decide +kernel
theorem dX5_say_141 : decode cX5_say 141 = .ok (.goto (-47), 3) := by decide +kernel
theorem dX5_say_144 : decode cX5_say 144 = .ok (.aload_n 0, 1) := by decide +kernel
theorem dX5_say_145 : decode cX5_say 145 = .ok (.iload 6, 2) := by decide +kernel
theorem dX5_say_147 : decode cX5_say 147 = .ok (.putfield 158, 3) := by decide +kernel
theorem dX5_say_150 : decode cX5_say 150 = .ok (.iload 7, 2) := by decide +kernel
theorem dX5_say_152 : decode cX5_say 152 = .ok (.ireturn, 1) := by decide +kernel
theorem dX5_dutyEverywhere_0 : decode cX5_dutyEverywhere 0 = .ok (.iconst 0, 1) := by decide +kernel
theorem dX5_dutyEverywhere_1 : decode cX5_dutyEverywhere 1 = .ok (.istore_n 1, 1) := by decide +kernel
theorem dX5_dutyEverywhere_2 : decode cX5_dutyEverywhere 2 = .ok (.iconst 0, 1) := by decide +kernel
theorem dX5_dutyEverywhere_3 : decode cX5_dutyEverywhere 3 = .ok (.istore_n 2, 1) := by decide +kernel
theorem dX5_dutyEverywhere_4 : decode cX5_dutyEverywhere 4 = .ok (.iload_n 2, 1) := by decide +kernel
theorem dX5_dutyEverywhere_5 : decode cX5_dutyEverywhere 5 = .ok (.aload_n 0, 1) := by decide +kernel
theorem dX5_dutyEverywhere_6 : decode cX5_dutyEverywhere 6 = .ok (.getfield 88, 3) := by decide +kernel
theorem dX5_dutyEverywhere_9 : decode cX5_dutyEverywhere 9 = .ok (.if_icmp .ge 17, 3) := by decide +kernel
theorem dX5_dutyEverywhere_12 : decode cX5_dutyEverywhere 12 = .ok (.iload_n 1, 1) := by decide +kernel
theorem dX5_dutyEverywhere_13 : decode cX5_dutyEverywhere 13 = .ok (.aload_n 0, 1) := by decide +kernel
theorem dX5_dutyEverywhere_14 : decode cX5_dutyEverywhere 14 = .ok (.iload_n 2, 1) := by decide +kernel
theorem dX5_dutyEverywhere_15 : decode cX5_dutyEverywhere 15 = .ok (.invokevirtual 190, 3) := by decide +kernel
theorem dX5_dutyEverywhere_18 : decode cX5_dutyEverywhere 18 = .ok (.iadd, 1) := by decide +kernel
theorem dX5_dutyEverywhere_19 : decode cX5_dutyEverywhere 19 = .ok (.istore_n 1, 1) := by decide +kernel
theorem dX5_dutyEverywhere_20 : decode cX5_dutyEverywhere 20 = .ok (.iinc 2 1, 3) := by decide +kernel
theorem dX5_dutyEverywhere_23 : decode cX5_dutyEverywhere 23 = .ok (.goto (-19), 3) := by decide +kernel
theorem dX5_dutyEverywhere_26 : decode cX5_dutyEverywhere 26 = .ok (.iload_n 1, 1) := by decide +kernel
theorem dX5_dutyEverywhere_27 : decode cX5_dutyEverywhere 27 = .ok (.ireturn, 1) := by decide +kernel
theorem dX5_pack_0 : decode cX5_pack 0 = .ok (.iload_n 1, 1) := by decide +kernel
theorem dX5_pack_1 : decode cX5_pack 1 = .ok (.iconst (-1), 1) := by decide +kernel
theorem dX5_pack_2 : decode cX5_pack 2 = .ok (.if_icmp .ge 5, 3) := by decide +kernel
theorem dX5_pack_5 : decode cX5_pack 5 = .ok (.iconst (-1), 1) := by decide +kernel
theorem dX5_pack_6 : decode cX5_pack 6 = .ok (.ireturn, 1) := by decide +kernel
theorem dX5_pack_7 : decode cX5_pack 7 = .ok (.aload_n 0, 1) := by decide +kernel
theorem dX5_pack_8 : decode cX5_pack 8 = .ok (.getfield 95, 3) := by decide +kernel
theorem dX5_pack_11 : decode cX5_pack 11 = .ok (.ifCond .ne 6, 3) := by decide +kernel
theorem dX5_pack_14 : decode cX5_pack 14 = .ok (.bipush (-3), 2) := by decide +kernel
theorem dX5_pack_16 : decode cX5_pack 16 = .ok (.ireturn, 1) := by decide +kernel
theorem dX5_pack_17 : decode cX5_pack 17 = .ok (.iconst 1, 1) := by decide +kernel
theorem dX5_pack_18 : decode cX5_pack 18 = .ok (.istore_n 2, 1) := by decide +kernel
theorem dX5_pack_19 : decode cX5_pack 19 = .ok (.iconst 0, 1) := by decide +kernel
theorem dX5_pack_20 : decode cX5_pack 20 = .ok (.istore_n 3, 1) := by decide +kernel
theorem dX5_pack_21 : decode cX5_pack 21 = .ok (.iload_n 3, 1) := by decide +kernel
theorem dX5_pack_22 : decode cX5_pack 22 = .ok (.aload_n 0, 1) := by decide +kernel
theorem dX5_pack_23 : decode cX5_pack 23 = .ok (.getfield 95, 3) := by decide +kernel
theorem dX5_pack_26 : decode cX5_pack 26 = .ok (.if_icmp .ge 25, 3) := by decide +kernel
theorem dX5_pack_29 : decode cX5_pack 29 = .ok (.aload_n 0, 1) := by decide +kernel
theorem dX5_pack_30 : decode cX5_pack 30 = .ok (.getfield 49, 3) := by decide +kernel
theorem dX5_pack_33 : decode cX5_pack 33 = .ok (.iload_n 3, 1) := by decide +kernel
theorem dX5_pack_34 : decode cX5_pack 34 = .ok (.aload_n 0, 1) := by decide +kernel
theorem dX5_pack_35 : decode cX5_pack 35 = .ok (.getfield 25, 3) := by decide +kernel
theorem dX5_pack_38 : decode cX5_pack 38 = .ok (.iload_n 3, 1) := by decide +kernel
theorem dX5_pack_39 : decode cX5_pack 39 = .ok (.iaload, 1) := by decide +kernel
theorem dX5_pack_40 : decode cX5_pack 40 = .ok (.iastore, 1) := by decide +kernel
theorem dX5_pack_41 : decode cX5_pack 41 = .ok (.iload_n 2, 1) := by decide +kernel
theorem dX5_pack_42 : decode cX5_pack 42 = .ok (.iconst 3, 1) := by decide +kernel
theorem dX5_pack_43 : decode cX5_pack 43 = .ok (.imul, 1) := by decide +kernel
theorem dX5_pack_44 : decode cX5_pack 44 = .ok (.istore_n 2, 1) := by decide +kernel
theorem dX5_pack_45 : decode cX5_pack 45 = .ok (.iinc 3 1, 3) := by decide +kernel
theorem dX5_pack_48 : decode cX5_pack 48 = .ok (.goto (-27), 3) := by decide +kernel
theorem dX5_pack_51 : decode cX5_pack 51 = .ok (.bipush (-9), 2) := by decide +kernel
theorem dX5_pack_53 : decode cX5_pack 53 = .ok (.istore_n 3, 1) := by decide +kernel
theorem dX5_pack_54 : decode cX5_pack 54 = .ok (.iconst 0, 1) := by decide +kernel
theorem dX5_pack_55 : decode cX5_pack 55 = .ok (.istore 4, 2) := by decide +kernel
theorem dX5_pack_57 : decode cX5_pack 57 = .ok (.iload 4, 2) := by decide +kernel
theorem dX5_pack_59 : decode cX5_pack 59 = .ok (.iload_n 2, 1) := by decide +kernel
theorem dX5_pack_60 : decode cX5_pack 60 = .ok (.if_icmp .ge 100, 3) := by decide +kernel
theorem dX5_pack_63 : decode cX5_pack 63 = .ok (.iload 4, 2) := by decide +kernel
theorem dX5_pack_65 : decode cX5_pack 65 = .ok (.istore 5, 2) := by decide +kernel
theorem dX5_pack_67 : decode cX5_pack 67 = .ok (.aload_n 0, 1) := by decide +kernel
theorem dX5_pack_68 : decode cX5_pack 68 = .ok (.getfield 95, 3) := by decide +kernel
theorem dX5_pack_71 : decode cX5_pack 71 = .ok (.iconst 1, 1) := by decide +kernel
theorem dX5_pack_72 : decode cX5_pack 72 = .ok (.isub, 1) := by decide +kernel
theorem dX5_pack_73 : decode cX5_pack 73 = .ok (.istore 6, 2) := by decide +kernel
theorem dX5_pack_75 : decode cX5_pack 75 = .ok (.iload 6, 2) := by decide +kernel
theorem dX5_pack_77 : decode cX5_pack 77 = .ok (.ifCond .lt 26, 3) := by decide +kernel
theorem dX5_pack_80 : decode cX5_pack 80 = .ok (.aload_n 0, 1) := by decide +kernel
theorem dX5_pack_81 : decode cX5_pack 81 = .ok (.getfield 25, 3) := by decide +kernel
theorem dX5_pack_84 : decode cX5_pack 84 = .ok (.iload 6, 2) := by decide +kernel
theorem dX5_pack_86 : decode cX5_pack 86 = .ok (.iload 5, 2) := by decide +kernel
theorem dX5_pack_88 : decode cX5_pack 88 = .ok (.iconst 3, 1) := by decide +kernel
theorem dX5_pack_89 : decode cX5_pack 89 = .ok (.irem, 1) := by decide +kernel
theorem dX5_pack_90 : decode cX5_pack 90 = .ok (.iastore, 1) := by decide +kernel
theorem dX5_pack_91 : decode cX5_pack 91 = .ok (.iload 5, 2) := by decide +kernel
theorem dX5_pack_93 : decode cX5_pack 93 = .ok (.iconst 3, 1) := by decide +kernel
theorem dX5_pack_94 : decode cX5_pack 94 = .ok (.idiv, 1) := by decide +kernel
theorem dX5_pack_95 : decode cX5_pack 95 = .ok (.istore 5, 2) := by decide +kernel
theorem dX5_pack_97 : decode cX5_pack 97 = .ok (.iinc 6 (-1), 3) := by decide +kernel
theorem dX5_pack_100 : decode cX5_pack 100 = .ok (.goto (-25), 3) := by decide +kernel
theorem dX5_pack_103 : decode cX5_pack 103 = .ok (.aload_n 0, 1) := by decide +kernel
theorem dX5_pack_104 : decode cX5_pack 104 = .ok (.invokevirtual 216, 3) := by decide +kernel
theorem dX5_pack_107 : decode cX5_pack 107 = .ok (.istore 6, 2) := by decide +kernel
theorem dX5_pack_109 : decode cX5_pack 109 = .ok (.iload_n 3, 1) := by decide +kernel
theorem dX5_pack_110 : decode cX5_pack 110 = .ok (.ifCond .lt 9, 3) := by decide +kernel
theorem dX5_pack_113 : decode cX5_pack 113 = .ok (.iload 6, 2) := by decide +kernel
theorem dX5_pack_115 : decode cX5_pack 115 = .ok (.iload_n 3, 1) := by decide +kernel
theorem dX5_pack_116 : decode cX5_pack 116 = .ok (.if_icmp .ge 38, 3) := by decide +kernel
theorem dX5_pack_119 : decode cX5_pack 119 = .ok (.iload 6, 2) := by decide +kernel
theorem dX5_pack_121 : decode cX5_pack 121 = .ok (.istore_n 3, 1) := by decide +kernel
theorem dX5_pack_122 : decode cX5_pack 122 = .ok (.iconst 0, 1) := by decide +kernel
theorem dX5_pack_123 : decode cX5_pack 123 = .ok (.istore 7, 2) := by decide +kernel
theorem dX5_pack_125 : decode cX5_pack 125 = .ok (.iload 7, 2) := by decide +kernel
theorem dX5_pack_127 : decode cX5_pack 127 = .ok (.aload_n 0, 1) := by decide +kernel
theorem dX5_pack_128 : decode cX5_pack 128 = .ok (.getfield 95, 3) := by decide +kernel
theorem dX5_pack_131 : decode cX5_pack 131 = .ok (.if_icmp .ge 23, 3) := by decide +kernel
theorem dX5_pack_134 : decode cX5_pack 134 = .ok (.aload_n 0, 1) := by decide +kernel
theorem dX5_pack_135 : decode cX5_pack 135 = .ok (.getfield 52, 3) := by decide +kernel
theorem dX5_pack_138 : decode cX5_pack 138 = .ok (.iload 7, 2) := by decide +kernel
theorem dX5_pack_140 : decode cX5_pack 140 = .ok (.aload_n 0, 1) := by decide +kernel
theorem dX5_pack_141 : decode cX5_pack 141 = .ok (.getfield 25, 3) := by decide +kernel
theorem dX5_pack_144 : decode cX5_pack 144 = .ok (.iload 7, 2) := by decide +kernel
theorem dX5_pack_146 : decode cX5_pack 146 = .ok (.iaload, 1) := by decide +kernel
theorem dX5_pack_147 : decode cX5_pack 147 = .ok (.iastore, 1) := by decide +kernel
theorem dX5_pack_148 : decode cX5_pack 148 = .ok (.iinc 7 1, 3) := by decide +kernel
theorem dX5_pack_151 : decode cX5_pack 151 = .ok (.goto (-26), 3) := by decide +kernel
theorem dX5_pack_154 : decode cX5_pack 154 = .ok (.iinc 4 1, 3) := by decide +kernel
theorem dX5_pack_157 : decode cX5_pack 157 = .ok (.goto (-100), 3) := by decide +kernel
theorem dX5_pack_160 : decode cX5_pack 160 = .ok (.iconst 0, 1) := by decide +kernel
theorem dX5_pack_161 : decode cX5_pack 161 = .ok (.istore 4, 2) := by decide +kernel
theorem dX5_pack_163 : decode cX5_pack 163 = .ok (.iload 4, 2) := by decide +kernel
theorem dX5_pack_165 : decode cX5_pack 165 = .ok (.aload_n 0, 1) := by decide +kernel
theorem dX5_pack_166 : decode cX5_pack 166 = .ok (.getfield 95, 3) := by decide +kernel
theorem dX5_pack_169 : decode cX5_pack 169 = .ok (.if_icmp .ge 23, 3) := by decide +kernel
theorem dX5_pack_172 : decode cX5_pack 172 = .ok (.aload_n 0, 1) := by decide +kernel
theorem dX5_pack_173 : decode cX5_pack 173 = .ok (.getfield 25, 3) := by decide +kernel
theorem dX5_pack_176 : decode cX5_pack 176 = .ok (.iload 4, 2) := by decide +kernel
theorem dX5_pack_178 : decode cX5_pack 178 = .ok (.aload_n 0, 1) := by decide +kernel
theorem dX5_pack_179 : decode cX5_pack 179 = .ok (.getfield 49, 3) := by decide +kernel
theorem dX5_pack_182 : decode cX5_pack 182 = .ok (.iload 4, 2) := by decide +kernel
theorem dX5_pack_184 : decode cX5_pack 184 = .ok (.iaload, 1) := by decide +kernel
theorem dX5_pack_185 : decode cX5_pack 185 = .ok (.iastore, 1) := by decide +kernel
theorem dX5_pack_186 : decode cX5_pack 186 = .ok (.iinc 4 1, 3) := by decide +kernel
theorem dX5_pack_189 : decode cX5_pack 189 = .ok (.goto (-26), 3) := by decide +kernel
theorem dX5_pack_192 : decode cX5_pack 192 = .ok (.iload_n 1, 1) := by decide +kernel
theorem dX5_pack_193 : decode cX5_pack 193 = .ok (.ifCond .ge 7, 3) := by decide +kernel
theorem dX5_pack_196 : decode cX5_pack 196 = .ok (.iload_n 3, 1) := by decide +kernel
theorem dX5_pack_197 : decode cX5_pack 197 = .ok (.goto 22, 3) := by decide +kernel
theorem dX5_pack_200 : decode cX5_pack 200 = .ok (.iload_n 1, 1) := by decide +kernel
theorem dX5_pack_201 : decode cX5_pack 201 = .ok (.aload_n 0, 1) := by decide +kernel
theorem dX5_pack_202 : decode cX5_pack 202 = .ok (.getfield 95, 3) := by decide +kernel
theorem dX5_pack_205 : decode cX5_pack 205 = .ok (.if_icmp .ge 12, 3) := by decide +kernel
theorem dX5_pack_208 : decode cX5_pack 208 = .ok (.aload_n 0, 1) := by decide +kernel
theorem dX5_pack_209 : decode cX5_pack 209 = .ok (.getfield 52, 3) := by decide +kernel
theorem dX5_pack_212 : decode cX5_pack 212 = .ok (.iload_n 1, 1) := by decide +kernel
theorem dX5_pack_213 : decode cX5_pack 213 = .ok (.iaload, 1) := by decide +kernel
theorem dX5_pack_214 : decode cX5_pack 214 = .ok (.goto 5, 3) := by decide +kernel
theorem dX5_pack_217 : decode cX5_pack 217 = .ok (.bipush (-9), 2) := by decide +kernel
theorem dX5_pack_219 : decode cX5_pack 219 = .ok (.ireturn, 1) := by decide +kernel
theorem dX5_road_0 : decode cX5_road 0 = .ok (.aload_n 0, 1) := by decide +kernel
theorem dX5_road_1 : decode cX5_road 1 = .ok (.getfield 95, 3) := by decide +kernel
theorem dX5_road_4 : decode cX5_road 4 = .ok (.ifCond .ne 6, 3) := by decide +kernel
theorem dX5_road_7 : decode cX5_road 7 = .ok (.bipush (-3), 2) := by decide +kernel
theorem dX5_road_9 : decode cX5_road 9 = .ok (.ireturn, 1) := by decide +kernel
theorem dX5_road_10 : decode cX5_road 10 = .ok (.iconst 0, 1) := by decide +kernel
theorem dX5_road_11 : decode cX5_road 11 = .ok (.istore_n 1, 1) := by decide +kernel
theorem dX5_road_12 : decode cX5_road 12 = .ok (.ldc2_w 219, 3) := by decide +kernel
theorem dX5_road_15 : decode cX5_road 15 = .ok (.lstore_n 2, 1) := by decide +kernel
theorem dX5_road_16 : decode cX5_road 16 = .ok (.iconst 0, 1) := by decide +kernel
theorem dX5_road_17 : decode cX5_road 17 = .ok (.istore 4, 2) := by decide +kernel
theorem dX5_road_19 : decode cX5_road 19 = .ok (.iload 4, 2) := by decide +kernel
theorem dX5_road_21 : decode cX5_road 21 = .ok (.aload_n 0, 1) := by decide +kernel
theorem dX5_road_22 : decode cX5_road 22 = .ok (.getfield 88, 3) := by decide +kernel
theorem dX5_road_25 : decode cX5_road 25 = .ok (.if_icmp .ge 57, 3) := by decide +kernel
theorem dX5_road_28 : decode cX5_road 28 = .ok (.aload_n 0, 1) := by decide +kernel
theorem dX5_road_29 : decode cX5_road 29 = .ok (.getfield 46, 3) := by decide +kernel
theorem dX5_road_32 : decode cX5_road 32 = .ok (.iconst 0, 1) := by decide +kernel
theorem dX5_road_33 : decode cX5_road 33 = .ok (.iload 4, 2) := by decide +kernel
theorem dX5_road_35 : decode cX5_road 35 = .ok (.iastore, 1) := by decide +kernel
theorem dX5_road_36 : decode cX5_road 36 = .ok (.aload_n 0, 1) := by decide +kernel
theorem dX5_road_37 : decode cX5_road 37 = .ok (.iconst 1, 1) := by decide +kernel
theorem dX5_road_38 : decode cX5_road 38 = .ok (.invokevirtual 213, 3) := by decide +kernel
theorem dX5_road_41 : decode cX5_road 41 = .ok (.lstore 5, 2) := by decide +kernel
theorem dX5_road_43 : decode cX5_road 43 = .ok (.lload_n 2, 1) := by decide +kernel
theorem dX5_road_44 : decode cX5_road 44 = .ok (.lconst 0, 1) := by decide +kernel
theorem dX5_road_45 : decode cX5_road 45 = .ok (.lcmp, 1) := by decide +kernel
theorem dX5_road_46 : decode cX5_road 46 = .ok (.ifCond .lt 10, 3) := by decide +kernel
theorem dX5_road_49 : decode cX5_road 49 = .ok (.lload 5, 2) := by decide +kernel
theorem dX5_road_51 : decode cX5_road 51 = .ok (.lload_n 2, 1) := by decide +kernel
theorem dX5_road_52 : decode cX5_road 52 = .ok (.lcmp, 1) := by decide +kernel
theorem dX5_road_53 : decode cX5_road 53 = .ok (.ifCond .ge 8, 3) := by decide +kernel
theorem dX5_road_56 : decode cX5_road 56 = .ok (.iload 4, 2) := by decide +kernel
theorem dX5_road_58 : decode cX5_road 58 = .ok (.goto 4, 3) := by decide +kernel
theorem dX5_road_61 : decode cX5_road 61 = .ok (.iload_n 1, 1) := by decide +kernel
theorem dX5_road_62 : decode cX5_road 62 = .ok (.istore_n 1, 1) := by decide +kernel
theorem dX5_road_63 : decode cX5_road 63 = .ok (.iload_n 1, 1) := by decide +kernel
theorem dX5_road_64 : decode cX5_road 64 = .ok (.iload 4, 2) := by decide +kernel
theorem dX5_road_66 : decode cX5_road 66 = .ok (.if_icmp .ne 8, 3) := by decide +kernel
theorem dX5_road_69 : decode cX5_road 69 = .ok (.lload 5, 2) := by decide +kernel
theorem dX5_road_71 : decode cX5_road 71 = .ok (.goto 4, 3) := by decide +kernel
theorem dX5_road_74 : decode cX5_road 74 = .ok (.lload_n 2, 1) := by decide +kernel
theorem dX5_road_75 : decode cX5_road 75 = .ok (.lstore_n 2, 1) := by decide +kernel
theorem dX5_road_76 : decode cX5_road 76 = .ok (.iinc 4 1, 3) := by decide +kernel
theorem dX5_road_79 : decode cX5_road 79 = .ok (.goto (-60), 3) := by decide +kernel
theorem dX5_road_82 : decode cX5_road 82 = .ok (.iload_n 1, 1) := by decide +kernel
theorem dX5_road_83 : decode cX5_road 83 = .ok (.ireturn, 1) := by decide +kernel
theorem dX5_worth_0 : decode cX5_worth 0 = .ok (.aload_n 0, 1) := by decide +kernel
theorem dX5_worth_1 : decode cX5_worth 1 = .ok (.iload_n 1, 1) := by decide +kernel
theorem dX5_worth_2 : decode cX5_worth 2 = .ok (.invokevirtual 173, 3) := by decide +kernel
theorem dX5_worth_5 : decode cX5_worth 5 = .ok (.ifCond .ne 35, 3) := by decide +kernel
theorem dX5_worth_8 : decode cX5_worth 8 = .ok (.iload_n 2, 1) := by decide +kernel
theorem dX5_worth_9 : decode cX5_worth 9 = .ok (.invokestatic 137, 3) := by decide +kernel
theorem dX5_worth_12 : decode cX5_worth 12 = .ok (.ifCond .ne 28, 3) := by decide +kernel
theorem dX5_worth_15 : decode cX5_worth 15 = .ok (.iload_n 3, 1) := by decide +kernel
theorem dX5_worth_16 : decode cX5_worth 16 = .ok (.i2l, 1) := by decide +kernel
theorem dX5_worth_17 : decode cX5_worth 17 = .ok (.lconst 0, 1) := by decide +kernel
theorem dX5_worth_18 : decode cX5_worth 18 = .ok (.ldc2_w 98, 3) := by decide +kernel
theorem dX5_worth_21 : decode cX5_worth 21 = .ok (.invokestatic 91, 3) := by decide +kernel
theorem dX5_worth_24 : decode cX5_worth 24 = .ok (.ifCond .eq 16, 3) := by decide +kernel
theorem dX5_worth_27 : decode cX5_worth 27 = .ok (.iload 5, 2) := by decide +kernel
theorem dX5_worth_29 : decode cX5_worth 29 = .ok (.i2l, 1) := by decide +kernel
theorem dX5_worth_30 : decode cX5_worth 30 = .ok (.lconst 0, 1) := by decide +kernel
theorem dX5_worth_31 : decode cX5_worth 31 = .ok (.ldc2_w 204, 3) := by decide +kernel
theorem dX5_worth_34 : decode cX5_worth 34 = .ok (.invokestatic 91, 3) := by decide +kernel
theorem dX5_worth_37 : decode cX5_worth 37 = .ok (.ifCond .ne 8, 3) := by decide +kernel
theorem dX5_worth_40 : decode cX5_worth 40 = .ok (.aload_n 0, 1) := by decide +kernel
theorem dX5_worth_41 : decode cX5_worth 41 = .ok (.invokevirtual 206, 3) := by decide +kernel
theorem dX5_worth_44 : decode cX5_worth 44 = .ok (.lreturn, 1) := by decide +kernel
theorem dX5_worth_45 : decode cX5_worth 45 = .ok (.aload_n 0, 1) := by decide +kernel
theorem dX5_worth_46 : decode cX5_worth 46 = .ok (.iload_n 2, 1) := by decide +kernel
theorem dX5_worth_47 : decode cX5_worth 47 = .ok (.iload_n 3, 1) := by decide +kernel
theorem dX5_worth_48 : decode cX5_worth 48 = .ok (.iload 4, 2) := by decide +kernel
theorem dX5_worth_50 : decode cX5_worth 50 = .ok (.iload 5, 2) := by decide +kernel
theorem dX5_worth_52 : decode cX5_worth 52 = .ok (.invokevirtual 209, 3) := by decide +kernel
theorem dX5_worth_55 : decode cX5_worth 55 = .ok (.ifCond .ge 7, 3) := by decide +kernel
theorem dX5_worth_58 : decode cX5_worth 58 = .ok (.invokestatic 84, 3) := by decide +kernel
theorem dX5_worth_61 : decode cX5_worth 61 = .ok (.lreturn, 1) := by decide +kernel
theorem dX5_worth_62 : decode cX5_worth 62 = .ok (.aload_n 0, 1) := by decide +kernel
theorem dX5_worth_63 : decode cX5_worth 63 = .ok (.iload 5, 2) := by decide +kernel
theorem dX5_worth_65 : decode cX5_worth 65 = .ok (.invokevirtual 213, 3) := by decide +kernel
theorem dX5_worth_68 : decode cX5_worth 68 = .ok (.lstore 6, 2) := by decide +kernel
theorem dX5_worth_70 : decode cX5_worth 70 = .ok (.aload_n 0, 1) := by decide +kernel
theorem dX5_worth_71 : decode cX5_worth 71 = .ok (.iload_n 1, 1) := by decide +kernel
theorem dX5_worth_72 : decode cX5_worth 72 = .ok (.putfield 73, 3) := by decide +kernel
theorem dX5_worth_75 : decode cX5_worth 75 = .ok (.lload 6, 2) := by decide +kernel
theorem dX5_worth_77 : decode cX5_worth 77 = .ok (.aload_n 0, 1) := by decide +kernel
theorem dX5_worth_78 : decode cX5_worth 78 = .ok (.iload 5, 2) := by decide +kernel
theorem dX5_worth_80 : decode cX5_worth 80 = .ok (.invokevirtual 213, 3) := by decide +kernel
theorem dX5_worth_83 : decode cX5_worth 83 = .ok (.lsub, 1) := by decide +kernel
theorem dX5_worth_84 : decode cX5_worth 84 = .ok (.bipush 8, 2) := by decide +kernel
theorem dX5_worth_86 : decode cX5_worth 86 = .ok (.iload 5, 2) := by decide +kernel
theorem dX5_worth_88 : decode cX5_worth 88 = .ok (.isub, 1) := by decide +kernel
theorem dX5_worth_89 : decode cX5_worth 89 = .ok (.invokestatic 196, 3) := by decide +kernel
theorem dX5_worth_92 : decode cX5_worth 92 = .ok (.lmul, 1) := by decide +kernel
theorem dX5_worth_93 : decode cX5_worth 93 = .ok (.lstore 8, 2) := by decide +kernel
theorem dX5_worth_95 : decode cX5_worth 95 = .ok (.aload_n 0, 1) := by decide +kernel
theorem dX5_worth_96 : decode cX5_worth 96 = .ok (.bipush (-9), 2) := by decide +kernel
theorem dX5_worth_98 : decode cX5_worth 98 = .ok (.putfield 73, 3) := by decide +kernel
theorem dX5_worth_101 : decode cX5_worth 101 = .ok (.lload 8, 2) := by decide +kernel
theorem dX5_worth_103 : decode cX5_worth 103 = .ok (.lreturn, 1) := by decide +kernel
theorem dX5_reading_0 : decode cX5_reading 0 = .ok (.aload_n 0, 1) := by decide +kernel
theorem dX5_reading_1 : decode cX5_reading 1 = .ok (.iload_n 1, 1) := by decide +kernel
theorem dX5_reading_2 : decode cX5_reading 2 = .ok (.invokevirtual 170, 3) := by decide +kernel
theorem dX5_reading_5 : decode cX5_reading 5 = .ok (.ifCond .eq 5, 3) := by decide +kernel
theorem dX5_reading_8 : decode cX5_reading 8 = .ok (.iconst (-1), 1) := by decide +kernel
theorem dX5_reading_9 : decode cX5_reading 9 = .ok (.ireturn, 1) := by decide +kernel
theorem dX5_reading_10 : decode cX5_reading 10 = .ok (.iload_n 2, 1) := by decide +kernel
theorem dX5_reading_11 : decode cX5_reading 11 = .ok (.i2l, 1) := by decide +kernel
theorem dX5_reading_12 : decode cX5_reading 12 = .ok (.lconst 0, 1) := by decide +kernel
theorem dX5_reading_13 : decode cX5_reading 13 = .ok (.ldc2_w 221, 3) := by decide +kernel
theorem dX5_reading_16 : decode cX5_reading 16 = .ok (.invokestatic 91, 3) := by decide +kernel
theorem dX5_reading_19 : decode cX5_reading 19 = .ok (.ifCond .ne 6, 3) := by decide +kernel
theorem dX5_reading_22 : decode cX5_reading 22 = .ok (.bipush (-2), 2) := by decide +kernel
theorem dX5_reading_24 : decode cX5_reading 24 = .ok (.ireturn, 1) := by decide +kernel
theorem dX5_reading_25 : decode cX5_reading 25 = .ok (.aload_n 0, 1) := by decide +kernel
theorem dX5_reading_26 : decode cX5_reading 26 = .ok (.getfield 164, 3) := by decide +kernel
theorem dX5_reading_29 : decode cX5_reading 29 = .ok (.bipush 8, 2) := by decide +kernel
theorem dX5_reading_31 : decode cX5_reading 31 = .ok (.if_icmp .ne 6, 3) := by decide +kernel
theorem dX5_reading_34 : decode cX5_reading 34 = .ok (.bipush (-4), 2) := by decide +kernel
theorem dX5_reading_36 : decode cX5_reading 36 = .ok (.ireturn, 1) := by decide +kernel
theorem dX5_reading_37 : decode cX5_reading 37 = .ok (.aload_n 0, 1) := by decide +kernel
theorem dX5_reading_38 : decode cX5_reading 38 = .ok (.getfield 55, 3) := by decide +kernel
theorem dX5_reading_41 : decode cX5_reading 41 = .ok (.aload_n 0, 1) := by decide +kernel
theorem dX5_reading_42 : decode cX5_reading 42 = .ok (.getfield 164, 3) := by decide +kernel
theorem dX5_reading_45 : decode cX5_reading 45 = .ok (.iload_n 1, 1) := by decide +kernel
theorem dX5_reading_46 : decode cX5_reading 46 = .ok (.iastore, 1) := by decide +kernel
theorem dX5_reading_47 : decode cX5_reading 47 = .ok (.aload_n 0, 1) := by decide +kernel
theorem dX5_reading_48 : decode cX5_reading 48 = .ok (.getfield 58, 3) := by decide +kernel
theorem dX5_reading_51 : decode cX5_reading 51 = .ok (.aload_n 0, 1) := by decide +kernel
theorem dX5_reading_52 : decode cX5_reading 52 = .ok (.getfield 164, 3) := by decide +kernel
theorem dX5_reading_55 : decode cX5_reading 55 = .ok (.iload_n 2, 1) := by decide +kernel
theorem dX5_reading_56 : decode cX5_reading 56 = .ok (.iastore, 1) := by decide +kernel
theorem dX5_reading_57 : decode cX5_reading 57 = .ok (.aload_n 0, 1) := by decide +kernel
theorem dX5_reading_58 : decode cX5_reading 58 = .ok (.dup, 1) := by decide +kernel
theorem dX5_reading_59 : decode cX5_reading 59 = .ok (.getfield 164, 3) := by decide +kernel
theorem dX5_reading_62 : decode cX5_reading 62 = .ok (.iconst 1, 1) := by decide +kernel
theorem dX5_reading_63 : decode cX5_reading 63 = .ok (.iadd, 1) := by decide +kernel
theorem dX5_reading_64 : decode cX5_reading 64 = .ok (.putfield 164, 3) := by decide +kernel
theorem dX5_reading_67 : decode cX5_reading 67 = .ok (.aload_n 0, 1) := by decide +kernel
theorem dX5_reading_68 : decode cX5_reading 68 = .ok (.getfield 164, 3) := by decide +kernel
theorem dX5_reading_71 : decode cX5_reading 71 = .ok (.iconst 1, 1) := by decide +kernel
theorem dX5_reading_72 : decode cX5_reading 72 = .ok (.isub, 1) := by decide +kernel
theorem dX5_reading_73 : decode cX5_reading 73 = .ok (.ireturn, 1) := by decide +kernel
theorem dX5_back_0 : decode cX5_back 0 = .ok (.iload_n 1, 1) := by decide +kernel
theorem dX5_back_1 : decode cX5_back 1 = .ok (.i2l, 1) := by decide +kernel
theorem dX5_back_2 : decode cX5_back 2 = .ok (.lconst 0, 1) := by decide +kernel
theorem dX5_back_3 : decode cX5_back 3 = .ok (.aload_n 0, 1) := by decide +kernel
theorem dX5_back_4 : decode cX5_back 4 = .ok (.getfield 164, 3) := by decide +kernel
theorem dX5_back_7 : decode cX5_back 7 = .ok (.i2l, 1) := by decide +kernel
theorem dX5_back_8 : decode cX5_back 8 = .ok (.invokestatic 91, 3) := by decide +kernel
theorem dX5_back_11 : decode cX5_back 11 = .ok (.ifCond .ne 6, 3) := by decide +kernel
theorem dX5_back_14 : decode cX5_back 14 = .ok (.bipush (-2), 2) := by decide +kernel
theorem dX5_back_16 : decode cX5_back 16 = .ok (.ireturn, 1) := by decide +kernel
theorem dX5_back_17 : decode cX5_back 17 = .ok (.aload_n 0, 1) := by decide +kernel
theorem dX5_back_18 : decode cX5_back 18 = .ok (.dup, 1) := by decide +kernel
theorem dX5_back_19 : decode cX5_back 19 = .ok (.getfield 164, 3) := by decide +kernel
theorem dX5_back_22 : decode cX5_back 22 = .ok (.iload_n 1, 1) := by decide +kernel
theorem dX5_back_23 : decode cX5_back 23 = .ok (.isub, 1) := by decide +kernel
theorem dX5_back_24 : decode cX5_back 24 = .ok (.putfield 164, 3) := by decide +kernel
theorem dX5_back_27 : decode cX5_back 27 = .ok (.aload_n 0, 1) := by decide +kernel
theorem dX5_back_28 : decode cX5_back 28 = .ok (.getfield 164, 3) := by decide +kernel
theorem dX5_back_31 : decode cX5_back 31 = .ok (.ireturn, 1) := by decide +kernel
theorem dX5_areSo_0 : decode cX5_areSo 0 = .ok (.iconst 1, 1) := by decide +kernel
theorem dX5_areSo_1 : decode cX5_areSo 1 = .ok (.istore_n 1, 1) := by decide +kernel
theorem dX5_areSo_2 : decode cX5_areSo 2 = .ok (.iconst 0, 1) := by decide +kernel
theorem dX5_areSo_3 : decode cX5_areSo 3 = .ok (.istore_n 2, 1) := by decide +kernel
theorem dX5_areSo_4 : decode cX5_areSo 4 = .ok (.iload_n 2, 1) := by decide +kernel
theorem dX5_areSo_5 : decode cX5_areSo 5 = .ok (.aload_n 0, 1) := by decide +kernel
theorem dX5_areSo_6 : decode cX5_areSo 6 = .ok (.getfield 164, 3) := by decide +kernel
theorem dX5_areSo_9 : decode cX5_areSo 9 = .ok (.if_icmp .ge 38, 3) := by decide +kernel
theorem dX5_areSo_12 : decode cX5_areSo 12 = .ok (.iload_n 1, 1) := by decide +kernel
theorem dX5_areSo_13 : decode cX5_areSo 13 = .ok (.ifCond .eq 26, 3) := by decide +kernel
theorem dX5_areSo_16 : decode cX5_areSo 16 = .ok (.aload_n 0, 1) := by decide +kernel
theorem dX5_areSo_17 : decode cX5_areSo 17 = .ok (.aload_n 0, 1) := by decide +kernel
theorem dX5_areSo_18 : decode cX5_areSo 18 = .ok (.getfield 55, 3) := by decide +kernel
theorem dX5_areSo_21 : decode cX5_areSo 21 = .ok (.iload_n 2, 1) := by decide +kernel
theorem dX5_areSo_22 : decode cX5_areSo 22 = .ok (.iaload, 1) := by decide +kernel
theorem dX5_areSo_23 : decode cX5_areSo 23 = .ok (.invokevirtual 190, 3) := by decide +kernel
theorem dX5_areSo_26 : decode cX5_areSo 26 = .ok (.aload_n 0, 1) := by decide +kernel
theorem dX5_areSo_27 : decode cX5_areSo 27 = .ok (.getfield 58, 3) := by decide +kernel
theorem dX5_areSo_30 : decode cX5_areSo 30 = .ok (.iload_n 2, 1) := by decide +kernel
theorem dX5_areSo_31 : decode cX5_areSo 31 = .ok (.iaload, 1) := by decide +kernel
theorem dX5_areSo_32 : decode cX5_areSo 32 = .ok (.if_icmp .ne 7, 3) := by decide +kernel
theorem dX5_areSo_35 : decode cX5_areSo 35 = .ok (.iconst 1, 1) := by decide +kernel
theorem dX5_areSo_36 : decode cX5_areSo 36 = .ok (.goto 4, 3) := by decide +kernel
theorem dX5_areSo_39 : decode cX5_areSo 39 = .ok (.iconst 0, 1) := by decide +kernel
theorem dX5_areSo_40 : decode cX5_areSo 40 = .ok (.istore_n 1, 1) := by decide +kernel
theorem dX5_areSo_41 : decode cX5_areSo 41 = .ok (.iinc 2 1, 3) := by decide +kernel
theorem dX5_areSo_44 : decode cX5_areSo 44 = .ok (.goto (-40), 3) := by decide +kernel
theorem dX5_areSo_47 : decode cX5_areSo 47 = .ok (.iload_n 1, 1) := by decide +kernel
theorem dX5_areSo_48 : decode cX5_areSo 48 = .ok (.ireturn, 1) := by decide +kernel
theorem dX5_said_0 : decode cX5_said 0 = .ok (.iload_n 1, 1) := by decide +kernel
theorem dX5_said_1 : decode cX5_said 1 = .ok (.i2l, 1) := by decide +kernel
theorem dX5_said_2 : decode cX5_said 2 = .ok (.lconst 0, 1) := by decide +kernel
theorem dX5_said_3 : decode cX5_said 3 = .ok (.lconst 1, 1) := by decide +kernel
theorem dX5_said_4 : decode cX5_said 4 = .ok (.invokestatic 91, 3) := by decide +kernel
theorem dX5_said_7 : decode cX5_said 7 = .ok (.ifCond .ne 6, 3) := by decide +kernel
theorem dX5_said_10 : decode cX5_said 10 = .ok (.bipush (-2), 2) := by decide +kernel
theorem dX5_said_12 : decode cX5_said 12 = .ok (.ireturn, 1) := by decide +kernel
theorem dX5_said_13 : decode cX5_said 13 = .ok (.aload_n 0, 1) := by decide +kernel
theorem dX5_said_14 : decode cX5_said 14 = .ok (.getfield 95, 3) := by decide +kernel
theorem dX5_said_17 : decode cX5_said 17 = .ok (.ifCond .ne 6, 3) := by decide +kernel
theorem dX5_said_20 : decode cX5_said 20 = .ok (.bipush (-3), 2) := by decide +kernel
theorem dX5_said_22 : decode cX5_said 22 = .ok (.ireturn, 1) := by decide +kernel
theorem dX5_said_23 : decode cX5_said 23 = .ok (.aload_n 0, 1) := by decide +kernel
theorem dX5_said_24 : decode cX5_said 24 = .ok (.getfield 158, 3) := by decide +kernel
theorem dX5_said_27 : decode cX5_said 27 = .ok (.istore_n 2, 1) := by decide +kernel
theorem dX5_said_28 : decode cX5_said 28 = .ok (.iconst 0, 1) := by decide +kernel
theorem dX5_said_29 : decode cX5_said 29 = .ok (.istore_n 3, 1) := by decide +kernel
theorem dX5_said_30 : decode cX5_said 30 = .ok (.bipush (-9), 2) := by decide +kernel
theorem dX5_said_32 : decode cX5_said 32 = .ok (.istore 4, 2) := by decide +kernel
theorem dX5_said_34 : decode cX5_said 34 = .ok (.iconst 0, 1) := by decide +kernel
theorem dX5_said_35 : decode cX5_said 35 = .ok (.istore 5, 2) := by decide +kernel
theorem dX5_said_37 : decode cX5_said 37 = .ok (.iload 5, 2) := by decide +kernel
theorem dX5_said_39 : decode cX5_said 39 = .ok (.aload_n 0, 1) := by decide +kernel
theorem dX5_said_40 : decode cX5_said 40 = .ok (.invokevirtual 154, 3) := by decide +kernel
theorem dX5_said_43 : decode cX5_said 43 = .ok (.if_icmp .gt 39, 3) := by decide +kernel
theorem dX5_said_46 : decode cX5_said 46 = .ok (.aload_n 0, 1) := by decide +kernel
theorem dX5_said_47 : decode cX5_said 47 = .ok (.iload 5, 2) := by decide +kernel
theorem dX5_said_49 : decode cX5_said 49 = .ok (.putfield 158, 3) := by decide +kernel
theorem dX5_said_52 : decode cX5_said 52 = .ok (.aload_n 0, 1) := by decide +kernel
theorem dX5_said_53 : decode cX5_said 53 = .ok (.invokevirtual 223, 3) := by decide +kernel
theorem dX5_said_56 : decode cX5_said 56 = .ok (.ifCond .eq 20, 3) := by decide +kernel
theorem dX5_said_59 : decode cX5_said 59 = .ok (.iinc 3 1, 3) := by decide +kernel
theorem dX5_said_62 : decode cX5_said 62 = .ok (.iload 4, 2) := by decide +kernel
theorem dX5_said_64 : decode cX5_said 64 = .ok (.ifCond .ge 8, 3) := by decide +kernel
theorem dX5_said_67 : decode cX5_said 67 = .ok (.iload 5, 2) := by decide +kernel
theorem dX5_said_69 : decode cX5_said 69 = .ok (.goto 5, 3) := by decide +kernel
theorem dX5_said_72 : decode cX5_said 72 = .ok (.iload 4, 2) := by decide +kernel
theorem dX5_said_74 : decode cX5_said 74 = .ok (.istore 4, 2) := by decide +kernel
theorem dX5_said_76 : decode cX5_said 76 = .ok (.iinc 5 1, 3) := by decide +kernel
theorem dX5_said_79 : decode cX5_said 79 = .ok (.goto (-42), 3) := by decide +kernel
theorem dX5_said_82 : decode cX5_said 82 = .ok (.aload_n 0, 1) := by decide +kernel
theorem dX5_said_83 : decode cX5_said 83 = .ok (.iload_n 2, 1) := by decide +kernel
theorem dX5_said_84 : decode cX5_said 84 = .ok (.putfield 158, 3) := by decide +kernel
theorem dX5_said_87 : decode cX5_said 87 = .ok (.iload_n 1, 1) := by decide +kernel
theorem dX5_said_88 : decode cX5_said 88 = .ok (.ifCond .ne 7, 3) := by decide +kernel
theorem dX5_said_91 : decode cX5_said 91 = .ok (.iload_n 3, 1) := by decide +kernel
theorem dX5_said_92 : decode cX5_said 92 = .ok (.goto 5, 3) := by decide +kernel
theorem dX5_said_95 : decode cX5_said 95 = .ok (.iload 4, 2) := by decide +kernel
theorem dX5_said_97 : decode cX5_said 97 = .ok (.ireturn, 1) := by decide +kernel
theorem dX5_frees_0 : decode cX5_frees 0 = .ok (.aload_n 0, 1) := by decide +kernel
theorem dX5_frees_1 : decode cX5_frees 1 = .ok (.getfield 95, 3) := by decide +kernel
theorem dX5_frees_4 : decode cX5_frees 4 = .ok (.ifCond .ne 6, 3) := by decide +kernel
theorem dX5_frees_7 : decode cX5_frees 7 = .ok (.bipush (-3), 2) := by decide +kernel
theorem dX5_frees_9 : decode cX5_frees 9 = .ok (.ireturn, 1) := by decide +kernel
theorem dX5_frees_10 : decode cX5_frees 10 = .ok (.aload_n 0, 1) := by decide +kernel
theorem dX5_frees_11 : decode cX5_frees 11 = .ok (.getfield 151, 3) := by decide +kernel
theorem dX5_frees_14 : decode cX5_frees 14 = .ok (.istore_n 1, 1) := by decide +kernel
theorem dX5_frees_15 : decode cX5_frees 15 = .ok (.iconst 0, 1) := by decide +kernel
theorem dX5_frees_16 : decode cX5_frees 16 = .ok (.istore_n 2, 1) := by decide +kernel
theorem dX5_frees_17 : decode cX5_frees 17 = .ok (.iconst 0, 1) := by decide +kernel
theorem dX5_frees_18 : decode cX5_frees 18 = .ok (.istore_n 3, 1) := by decide +kernel
theorem dX5_frees_19 : decode cX5_frees 19 = .ok (.iload_n 3, 1) := by decide +kernel
theorem dX5_frees_20 : decode cX5_frees 20 = .ok (.bipush 10, 2) := by decide +kernel
theorem dX5_frees_22 : decode cX5_frees 22 = .ok (.if_icmp .ge 31, 3) := by decide +kernel
theorem dX5_frees_25 : decode cX5_frees 25 = .ok (.aload_n 0, 1) := by decide +kernel
theorem dX5_frees_26 : decode cX5_frees 26 = .ok (.iload_n 3, 1) := by decide +kernel
theorem dX5_frees_27 : decode cX5_frees 27 = .ok (.putfield 151, 3) := by decide +kernel
theorem dX5_frees_30 : decode cX5_frees 30 = .ok (.iload_n 2, 1) := by decide +kernel
theorem dX5_frees_31 : decode cX5_frees 31 = .ok (.aload_n 0, 1) := by decide +kernel
theorem dX5_frees_32 : decode cX5_frees 32 = .ok (.invokevirtual 223, 3) := by decide +kernel
theorem dX5_frees_35 : decode cX5_frees 35 = .ok (.ifCond .eq 9, 3) := by decide +kernel
theorem dX5_frees_38 : decode cX5_frees 38 = .ok (.iconst 1, 1) := by decide +kernel
theorem dX5_frees_39 : decode cX5_frees 39 = .ok (.iload_n 3, 1) := by decide +kernel
theorem dX5_frees_40 : decode cX5_frees 40 = .ok (.ishl, 1) := by decide +kernel
theorem dX5_frees_41 : decode cX5_frees 41 = .ok (.goto 4, 3) := by decide +kernel
theorem dX5_frees_44 : decode cX5_frees 44 = .ok (.iconst 0, 1) := by decide +kernel
theorem dX5_frees_45 : decode cX5_frees 45 = .ok (.ior, 1) := by decide +kernel
theorem dX5_frees_46 : decode cX5_frees 46 = .ok (.istore_n 2, 1) := by decide +kernel
theorem dX5_frees_47 : decode cX5_frees 47 = .ok (.iinc 3 1, 3) := by decide +kernel
theorem dX5_frees_50 : decode cX5_frees 50 = .ok (.goto (-31), 3) := by decide +kernel
theorem dX5_frees_53 : decode cX5_frees 53 = .ok (.aload_n 0, 1) := by decide +kernel
theorem dX5_frees_54 : decode cX5_frees 54 = .ok (.iload_n 1, 1) := by decide +kernel
theorem dX5_frees_55 : decode cX5_frees 55 = .ok (.putfield 151, 3) := by decide +kernel
theorem dX5_frees_58 : decode cX5_frees 58 = .ok (.iload_n 2, 1) := by decide +kernel
theorem dX5_frees_59 : decode cX5_frees 59 = .ok (.ireturn, 1) := by decide +kernel
theorem dX5_laws_0 : decode cX5_laws 0 = .ok (.aload_n 0, 1) := by decide +kernel
theorem dX5_laws_1 : decode cX5_laws 1 = .ok (.getfield 95, 3) := by decide +kernel
theorem dX5_laws_4 : decode cX5_laws 4 = .ok (.ifCond .ne 6, 3) := by decide +kernel
theorem dX5_laws_7 : decode cX5_laws 7 = .ok (.bipush (-3), 2) := by decide +kernel
theorem dX5_laws_9 : decode cX5_laws 9 = .ok (.ireturn, 1) := by decide +kernel
theorem dX5_laws_10 : decode cX5_laws 10 = .ok (.aload_n 0, 1) := by decide +kernel
theorem dX5_laws_11 : decode cX5_laws 11 = .ok (.getfield 161, 3) := by decide +kernel
theorem dX5_laws_14 : decode cX5_laws 14 = .ok (.istore_n 1, 1) := by decide +kernel
theorem dX5_laws_15 : decode cX5_laws 15 = .ok (.iconst 0, 1) := by decide +kernel
theorem dX5_laws_16 : decode cX5_laws 16 = .ok (.istore_n 2, 1) := by decide +kernel
theorem dX5_laws_17 : decode cX5_laws 17 = .ok (.iconst 0, 1) := by decide +kernel
theorem dX5_laws_18 : decode cX5_laws 18 = .ok (.istore_n 3, 1) := by decide +kernel
theorem dX5_laws_19 : decode cX5_laws 19 = .ok (.iload_n 3, 1) := by decide +kernel
theorem dX5_laws_20 : decode cX5_laws 20 = .ok (.bipush 8, 2) := by decide +kernel
theorem dX5_laws_22 : decode cX5_laws 22 = .ok (.if_icmp .ge 31, 3) := by decide +kernel
theorem dX5_laws_25 : decode cX5_laws 25 = .ok (.aload_n 0, 1) := by decide +kernel
theorem dX5_laws_26 : decode cX5_laws 26 = .ok (.iload_n 3, 1) := by decide +kernel
theorem dX5_laws_27 : decode cX5_laws 27 = .ok (.putfield 161, 3) := by decide +kernel
theorem dX5_laws_30 : decode cX5_laws 30 = .ok (.iload_n 2, 1) := by decide +kernel
theorem dX5_laws_31 : decode cX5_laws 31 = .ok (.aload_n 0, 1) := by decide +kernel
theorem dX5_laws_32 : decode cX5_laws 32 = .ok (.invokevirtual 223, 3) := by decide +kernel
theorem dX5_laws_35 : decode cX5_laws 35 = .ok (.ifCond .eq 9, 3) := by decide +kernel
theorem dX5_laws_38 : decode cX5_laws 38 = .ok (.iconst 1, 1) := by decide +kernel
theorem dX5_laws_39 : decode cX5_laws 39 = .ok (.iload_n 3, 1) := by decide +kernel
theorem dX5_laws_40 : decode cX5_laws 40 = .ok (.ishl, 1) := by decide +kernel
theorem dX5_laws_41 : decode cX5_laws 41 = .ok (.goto 4, 3) := by decide +kernel
theorem dX5_laws_44 : decode cX5_laws 44 = .ok (.iconst 0, 1) := by decide +kernel
theorem dX5_laws_45 : decode cX5_laws 45 = .ok (.ior, 1) := by decide +kernel
theorem dX5_laws_46 : decode cX5_laws 46 = .ok (.istore_n 2, 1) := by decide +kernel
theorem dX5_laws_47 : decode cX5_laws 47 = .ok (.iinc 3 1, 3) := by decide +kernel
theorem dX5_laws_50 : decode cX5_laws 50 = .ok (.goto (-31), 3) := by decide +kernel
theorem dX5_laws_53 : decode cX5_laws 53 = .ok (.aload_n 0, 1) := by decide +kernel
theorem dX5_laws_54 : decode cX5_laws 54 = .ok (.iload_n 1, 1) := by decide +kernel
theorem dX5_laws_55 : decode cX5_laws 55 = .ok (.putfield 161, 3) := by decide +kernel
theorem dX5_laws_58 : decode cX5_laws 58 = .ok (.iload_n 2, 1) := by decide +kernel
theorem dX5_laws_59 : decode cX5_laws 59 = .ok (.ireturn, 1) := by decide +kernel
theorem dX5_kinds_0 : decode cX5_kinds 0 = .ok (.aload_n 0, 1) := by decide +kernel
theorem dX5_kinds_1 : decode cX5_kinds 1 = .ok (.iload_n 1, 1) := by decide +kernel
theorem dX5_kinds_2 : decode cX5_kinds 2 = .ok (.invokevirtual 173, 3) := by decide +kernel
theorem dX5_kinds_5 : decode cX5_kinds 5 = .ok (.ifCond .eq 5, 3) := by decide +kernel
theorem dX5_kinds_8 : decode cX5_kinds 8 = .ok (.iconst (-1), 1) := by decide +kernel
theorem dX5_kinds_9 : decode cX5_kinds 9 = .ok (.ireturn, 1) := by decide +kernel
theorem dX5_kinds_10 : decode cX5_kinds 10 = .ok (.aload_n 0, 1) := by decide +kernel
theorem dX5_kinds_11 : decode cX5_kinds 11 = .ok (.getfield 16, 3) := by decide +kernel
theorem dX5_kinds_14 : decode cX5_kinds 14 = .ok (.iload_n 1, 1) := by decide +kernel
theorem dX5_kinds_15 : decode cX5_kinds 15 = .ok (.iaload, 1) := by decide +kernel
theorem dX5_kinds_16 : decode cX5_kinds 16 = .ok (.istore_n 2, 1) := by decide +kernel
theorem dX5_kinds_17 : decode cX5_kinds 17 = .ok (.iconst 0, 1) := by decide +kernel
theorem dX5_kinds_18 : decode cX5_kinds 18 = .ok (.istore_n 3, 1) := by decide +kernel
theorem dX5_kinds_19 : decode cX5_kinds 19 = .ok (.iconst 0, 1) := by decide +kernel
theorem dX5_kinds_20 : decode cX5_kinds 20 = .ok (.istore 4, 2) := by decide +kernel
theorem dX5_kinds_22 : decode cX5_kinds 22 = .ok (.iload 4, 2) := by decide +kernel
theorem dX5_kinds_24 : decode cX5_kinds 24 = .ok (.iconst 3, 1) := by decide +kernel
theorem dX5_kinds_25 : decode cX5_kinds 25 = .ok (.if_icmp .ge 35, 3) := by decide +kernel
theorem dX5_kinds_28 : decode cX5_kinds 28 = .ok (.aload_n 0, 1) := by decide +kernel
theorem dX5_kinds_29 : decode cX5_kinds 29 = .ok (.getfield 16, 3) := by decide +kernel
theorem dX5_kinds_32 : decode cX5_kinds 32 = .ok (.iload_n 1, 1) := by decide +kernel
theorem dX5_kinds_33 : decode cX5_kinds 33 = .ok (.iload 4, 2) := by decide +kernel
theorem dX5_kinds_35 : decode cX5_kinds 35 = .ok (.iastore, 1) := by decide +kernel
theorem dX5_kinds_36 : decode cX5_kinds 36 = .ok (.iload_n 3, 1) := by decide +kernel
theorem dX5_kinds_37 : decode cX5_kinds 37 = .ok (.aload_n 0, 1) := by decide +kernel
theorem dX5_kinds_38 : decode cX5_kinds 38 = .ok (.invokevirtual 223, 3) := by decide +kernel
theorem dX5_kinds_41 : decode cX5_kinds 41 = .ok (.ifCond .eq 10, 3) := by decide +kernel
theorem dX5_kinds_44 : decode cX5_kinds 44 = .ok (.iconst 1, 1) := by decide +kernel
theorem dX5_kinds_45 : decode cX5_kinds 45 = .ok (.iload 4, 2) := by decide +kernel
theorem dX5_kinds_47 : decode cX5_kinds 47 = .ok (.ishl, 1) := by decide +kernel
theorem dX5_kinds_48 : decode cX5_kinds 48 = .ok (.goto 4, 3) := by decide +kernel
theorem dX5_kinds_51 : decode cX5_kinds 51 = .ok (.iconst 0, 1) := by decide +kernel
theorem dX5_kinds_52 : decode cX5_kinds 52 = .ok (.ior, 1) := by decide +kernel
theorem dX5_kinds_53 : decode cX5_kinds 53 = .ok (.istore_n 3, 1) := by decide +kernel
theorem dX5_kinds_54 : decode cX5_kinds 54 = .ok (.iinc 4 1, 3) := by decide +kernel
theorem dX5_kinds_57 : decode cX5_kinds 57 = .ok (.goto (-35), 3) := by decide +kernel
theorem dX5_kinds_60 : decode cX5_kinds 60 = .ok (.aload_n 0, 1) := by decide +kernel
theorem dX5_kinds_61 : decode cX5_kinds 61 = .ok (.getfield 16, 3) := by decide +kernel
theorem dX5_kinds_64 : decode cX5_kinds 64 = .ok (.iload_n 1, 1) := by decide +kernel
theorem dX5_kinds_65 : decode cX5_kinds 65 = .ok (.iload_n 2, 1) := by decide +kernel
theorem dX5_kinds_66 : decode cX5_kinds 66 = .ok (.iastore, 1) := by decide +kernel
theorem dX5_kinds_67 : decode cX5_kinds 67 = .ok (.iload_n 3, 1) := by decide +kernel
theorem dX5_kinds_68 : decode cX5_kinds 68 = .ok (.ireturn, 1) := by decide +kernel
theorem dX5_odds_0 : decode cX5_odds 0 = .ok (.aload_n 0, 1) := by decide +kernel
theorem dX5_odds_1 : decode cX5_odds 1 = .ok (.iload_n 1, 1) := by decide +kernel
theorem dX5_odds_2 : decode cX5_odds 2 = .ok (.invokevirtual 170, 3) := by decide +kernel
theorem dX5_odds_5 : decode cX5_odds 5 = .ok (.ifCond .ne 25, 3) := by decide +kernel
theorem dX5_odds_8 : decode cX5_odds 8 = .ok (.iload_n 2, 1) := by decide +kernel
theorem dX5_odds_9 : decode cX5_odds 9 = .ok (.i2l, 1) := by decide +kernel
theorem dX5_odds_10 : decode cX5_odds 10 = .ok (.lconst 0, 1) := by decide +kernel
theorem dX5_odds_11 : decode cX5_odds 11 = .ok (.ldc2_w 221, 3) := by decide +kernel
theorem dX5_odds_14 : decode cX5_odds 14 = .ok (.invokestatic 91, 3) := by decide +kernel
theorem dX5_odds_17 : decode cX5_odds 17 = .ok (.ifCond .eq 13, 3) := by decide +kernel
theorem dX5_odds_20 : decode cX5_odds 20 = .ok (.iload_n 3, 1) := by decide +kernel
theorem dX5_odds_21 : decode cX5_odds 21 = .ok (.i2l, 1) := by decide +kernel
theorem dX5_odds_22 : decode cX5_odds 22 = .ok (.lconst 0, 1) := by decide +kernel
theorem dX5_odds_23 : decode cX5_odds 23 = .ok (.lconst 1, 1) := by decide +kernel
theorem dX5_odds_24 : decode cX5_odds 24 = .ok (.invokestatic 91, 3) := by decide +kernel
theorem dX5_odds_27 : decode cX5_odds 27 = .ok (.ifCond .ne 7, 3) := by decide +kernel
theorem dX5_odds_30 : decode cX5_odds 30 = .ok (.invokestatic 84, 3) := by decide +kernel
theorem dX5_odds_33 : decode cX5_odds 33 = .ok (.lreturn, 1) := by decide +kernel
theorem dX5_odds_34 : decode cX5_odds 34 = .ok (.aload_n 0, 1) := by decide +kernel
theorem dX5_odds_35 : decode cX5_odds 35 = .ok (.getfield 158, 3) := by decide +kernel
theorem dX5_odds_38 : decode cX5_odds 38 = .ok (.istore 4, 2) := by decide +kernel
theorem dX5_odds_40 : decode cX5_odds 40 = .ok (.lconst 0, 1) := by decide +kernel
theorem dX5_odds_41 : decode cX5_odds 41 = .ok (.lstore 5, 2) := by decide +kernel
theorem dX5_odds_43 : decode cX5_odds 43 = .ok (.iconst 0, 1) := by decide +kernel
theorem dX5_odds_44 : decode cX5_odds 44 = .ok (.istore 7, 2) := by decide +kernel
theorem dX5_odds_46 : decode cX5_odds 46 = .ok (.iload 7, 2) := by decide +kernel
theorem dX5_odds_48 : decode cX5_odds 48 = .ok (.aload_n 0, 1) := by decide +kernel
theorem dX5_odds_49 : decode cX5_odds 49 = .ok (.invokevirtual 154, 3) := by decide +kernel
theorem dX5_odds_52 : decode cX5_odds 52 = .ok (.if_icmp .gt 34, 3) := by decide +kernel
theorem dX5_odds_55 : decode cX5_odds 55 = .ok (.aload_n 0, 1) := by decide +kernel
theorem dX5_odds_56 : decode cX5_odds 56 = .ok (.iload 7, 2) := by decide +kernel
theorem dX5_odds_58 : decode cX5_odds 58 = .ok (.putfield 158, 3) := by decide +kernel
theorem dX5_odds_61 : decode cX5_odds 61 = .ok (.lload 5, 2) := by decide +kernel
theorem dX5_odds_63 : decode cX5_odds 63 = .ok (.aload_n 0, 1) := by decide +kernel
theorem dX5_odds_64 : decode cX5_odds 64 = .ok (.iload_n 1, 1) := by decide +kernel
theorem dX5_odds_65 : decode cX5_odds 65 = .ok (.invokevirtual 190, 3) := by decide +kernel
theorem dX5_odds_68 : decode cX5_odds 68 = .ok (.iload_n 2, 1) := by decide +kernel
theorem dX5_odds_69 : decode cX5_odds 69 = .ok (.if_icmp .lt 7, 3) := by decide +kernel
theorem dX5_odds_72 : decode cX5_odds 72 = .ok (.lconst 1, 1) := by decide +kernel
theorem dX5_odds_73 : decode cX5_odds 73 = .ok (.goto 4, 3) := by decide +kernel
theorem dX5_odds_76 : decode cX5_odds 76 = .ok (.lconst 0, 1) := by decide +kernel
theorem dX5_odds_77 : decode cX5_odds 77 = .ok (.ladd, 1) := by decide +kernel
theorem dX5_odds_78 : decode cX5_odds 78 = .ok (.lstore 5, 2) := by decide +kernel
theorem dX5_odds_80 : decode cX5_odds 80 = .ok (.iinc 7 1, 3) := by decide +kernel
theorem dX5_odds_83 : decode cX5_odds 83 = .ok (.goto (-37), 3) := by decide +kernel
theorem dX5_odds_86 : decode cX5_odds 86 = .ok (.aload_n 0, 1) := by decide +kernel
theorem dX5_odds_87 : decode cX5_odds 87 = .ok (.iload 4, 2) := by decide +kernel
theorem dX5_odds_89 : decode cX5_odds 89 = .ok (.putfield 158, 3) := by decide +kernel
theorem dX5_odds_92 : decode cX5_odds 92 = .ok (.lload 5, 2) := by decide +kernel
theorem dX5_odds_94 : decode cX5_odds 94 = .ok (.aload_n 0, 1) := by decide +kernel
theorem dX5_odds_95 : decode cX5_odds 95 = .ok (.invokevirtual 154, 3) := by decide +kernel
theorem dX5_odds_98 : decode cX5_odds 98 = .ok (.i2l, 1) := by decide +kernel
theorem dX5_odds_99 : decode cX5_odds 99 = .ok (.lconst 1, 1) := by decide +kernel
theorem dX5_odds_100 : decode cX5_odds 100 = .ok (.ladd, 1) := by decide +kernel
theorem dX5_odds_101 : decode cX5_odds 101 = .ok (.iload_n 3, 1) := by decide +kernel
theorem dX5_odds_102 : decode cX5_odds 102 = .ok (.invokestatic 200, 3) := by decide +kernel
theorem dX5_odds_105 : decode cX5_odds 105 = .ok (.lreturn, 1) := by decide +kernel
theorem dX5_noSheet_0 : decode cX5_noSheet 0 = .ok (.iload_n 0, 1) := by decide +kernel
theorem dX5_noSheet_1 : decode cX5_noSheet 1 = .ok (.i2l, 1) := by decide +kernel
theorem dX5_noSheet_2 : decode cX5_noSheet 2 = .ok (.lconst 0, 1) := by decide +kernel
theorem dX5_noSheet_3 : decode cX5_noSheet 3 = .ok (.ldc2_w 227, 3) := by decide +kernel
theorem dX5_noSheet_6 : decode cX5_noSheet 6 = .ok (.invokestatic 91, 3) := by decide +kernel
theorem dX5_noSheet_9 : decode cX5_noSheet 9 = .ok (.ifCond .ne 7, 3) := by decide +kernel
theorem dX5_noSheet_12 : decode cX5_noSheet 12 = .ok (.iconst 1, 1) := by decide +kernel
theorem dX5_noSheet_13 : decode cX5_noSheet 13 = .ok (.goto 4, 3) := by decide +kernel
theorem dX5_noSheet_16 : decode cX5_noSheet 16 = .ok (.iconst 0, 1) := by decide +kernel
theorem dX5_noSheet_17 : decode cX5_noSheet 17 = .ok (.ireturn, 1) := by decide +kernel
theorem dX5_sheet_0 : decode cX5_sheet 0 = .ok (.iload_n 1, 1) := by decide +kernel
theorem dX5_sheet_1 : decode cX5_sheet 1 = .ok (.invokestatic 137, 3) := by decide +kernel
theorem dX5_sheet_4 : decode cX5_sheet 4 = .ok (.ifCond .eq 9, 3) := by decide +kernel
theorem dX5_sheet_7 : decode cX5_sheet 7 = .ok (.aload_n 0, 1) := by decide +kernel
theorem dX5_sheet_8 : decode cX5_sheet 8 = .ok (.iconst (-1), 1) := by decide +kernel
theorem dX5_sheet_9 : decode cX5_sheet 9 = .ok (.invokevirtual 141, 3) := by decide +kernel
theorem dX5_sheet_12 : decode cX5_sheet 12 = .ok (.ireturn, 1) := by decide +kernel
theorem dX5_sheet_13 : decode cX5_sheet 13 = .ok (.iload_n 2, 1) := by decide +kernel
theorem dX5_sheet_14 : decode cX5_sheet 14 = .ok (.i2l, 1) := by decide +kernel
theorem dX5_sheet_15 : decode cX5_sheet 15 = .ok (.lconst 0, 1) := by decide +kernel
theorem dX5_sheet_16 : decode cX5_sheet 16 = .ok (.ldc2_w 98, 3) := by decide +kernel
theorem dX5_sheet_19 : decode cX5_sheet 19 = .ok (.invokestatic 91, 3) := by decide +kernel
theorem dX5_sheet_22 : decode cX5_sheet 22 = .ok (.ifCond .eq 9, 3) := by decide +kernel
theorem dX5_sheet_25 : decode cX5_sheet 25 = .ok (.iload_n 3, 1) := by decide +kernel
theorem dX5_sheet_26 : decode cX5_sheet 26 = .ok (.bipush 60, 2) := by decide +kernel
theorem dX5_sheet_28 : decode cX5_sheet 28 = .ok (.if_icmp .le 10, 3) := by decide +kernel
theorem dX5_sheet_31 : decode cX5_sheet 31 = .ok (.aload_n 0, 1) := by decide +kernel
theorem dX5_sheet_32 : decode cX5_sheet 32 = .ok (.bipush (-2), 2) := by decide +kernel
theorem dX5_sheet_34 : decode cX5_sheet 34 = .ok (.invokevirtual 141, 3) := by decide +kernel
theorem dX5_sheet_37 : decode cX5_sheet 37 = .ok (.ireturn, 1) := by decide +kernel
theorem dX5_sheet_38 : decode cX5_sheet 38 = .ok (.iload_n 3, 1) := by decide +kernel
theorem dX5_sheet_39 : decode cX5_sheet 39 = .ok (.ifCond .ge 9, 3) := by decide +kernel
theorem dX5_sheet_42 : decode cX5_sheet 42 = .ok (.aload_n 0, 1) := by decide +kernel
theorem dX5_sheet_43 : decode cX5_sheet 43 = .ok (.iconst 4, 1) := by decide +kernel
theorem dX5_sheet_44 : decode cX5_sheet 44 = .ok (.invokevirtual 129, 3) := by decide +kernel
theorem dX5_sheet_47 : decode cX5_sheet 47 = .ok (.ireturn, 1) := by decide +kernel
theorem dX5_sheet_48 : decode cX5_sheet 48 = .ok (.aload_n 0, 1) := by decide +kernel
theorem dX5_sheet_49 : decode cX5_sheet 49 = .ok (.getfield 61, 3) := by decide +kernel
theorem dX5_sheet_52 : decode cX5_sheet 52 = .ok (.iload_n 1, 1) := by decide +kernel
theorem dX5_sheet_53 : decode cX5_sheet 53 = .ok (.iload_n 3, 1) := by decide +kernel
theorem dX5_sheet_54 : decode cX5_sheet 54 = .ok (.iastore, 1) := by decide +kernel
theorem dX5_sheet_55 : decode cX5_sheet 55 = .ok (.aload_n 0, 1) := by decide +kernel
theorem dX5_sheet_56 : decode cX5_sheet 56 = .ok (.getfield 64, 3) := by decide +kernel
theorem dX5_sheet_59 : decode cX5_sheet 59 = .ok (.iload_n 1, 1) := by decide +kernel
theorem dX5_sheet_60 : decode cX5_sheet 60 = .ok (.iload_n 2, 1) := by decide +kernel
theorem dX5_sheet_61 : decode cX5_sheet 61 = .ok (.iastore, 1) := by decide +kernel
theorem dX5_sheet_62 : decode cX5_sheet 62 = .ok (.iconst 0, 1) := by decide +kernel
theorem dX5_sheet_63 : decode cX5_sheet 63 = .ok (.istore 4, 2) := by decide +kernel
theorem dX5_sheet_65 : decode cX5_sheet 65 = .ok (.iload 4, 2) := by decide +kernel
theorem dX5_sheet_67 : decode cX5_sheet 67 = .ok (.iload_n 3, 1) := by decide +kernel
theorem dX5_sheet_68 : decode cX5_sheet 68 = .ok (.if_icmp .ge 22, 3) := by decide +kernel
theorem dX5_sheet_71 : decode cX5_sheet 71 = .ok (.aload_n 0, 1) := by decide +kernel
theorem dX5_sheet_72 : decode cX5_sheet 72 = .ok (.getfield 67, 3) := by decide +kernel
theorem dX5_sheet_75 : decode cX5_sheet 75 = .ok (.bipush 60, 2) := by decide +kernel
theorem dX5_sheet_77 : decode cX5_sheet 77 = .ok (.iload_n 1, 1) := by decide +kernel
theorem dX5_sheet_78 : decode cX5_sheet 78 = .ok (.imul, 1) := by decide +kernel
theorem dX5_sheet_79 : decode cX5_sheet 79 = .ok (.iload 4, 2) := by decide +kernel
theorem dX5_sheet_81 : decode cX5_sheet 81 = .ok (.iadd, 1) := by decide +kernel
theorem dX5_sheet_82 : decode cX5_sheet 82 = .ok (.iconst 0, 1) := by decide +kernel
theorem dX5_sheet_83 : decode cX5_sheet 83 = .ok (.iastore, 1) := by decide +kernel
theorem dX5_sheet_84 : decode cX5_sheet 84 = .ok (.iinc 4 1, 3) := by decide +kernel
theorem dX5_sheet_87 : decode cX5_sheet 87 = .ok (.goto (-22), 3) := by decide +kernel
theorem dX5_sheet_90 : decode cX5_sheet 90 = .ok (.aload_n 0, 1) := by decide +kernel
theorem dX5_sheet_91 : decode cX5_sheet 91 = .ok (.iconst 1, 1) := by decide +kernel
theorem dX5_sheet_92 : decode cX5_sheet 92 = .ok (.invokevirtual 141, 3) := by decide +kernel
theorem dX5_sheet_95 : decode cX5_sheet 95 = .ok (.ireturn, 1) := by decide +kernel
theorem dX5_lose_0 : decode cX5_lose 0 = .ok (.iload_n 1, 1) := by decide +kernel
theorem dX5_lose_1 : decode cX5_lose 1 = .ok (.invokestatic 137, 3) := by decide +kernel
theorem dX5_lose_4 : decode cX5_lose 4 = .ok (.ifCond .eq 5, 3) := by decide +kernel
theorem dX5_lose_7 : decode cX5_lose 7 = .ok (.iconst (-1), 1) := by decide +kernel
theorem dX5_lose_8 : decode cX5_lose 8 = .ok (.ireturn, 1) := by decide +kernel
theorem dX5_lose_9 : decode cX5_lose 9 = .ok (.aload_n 0, 1) := by decide +kernel
theorem dX5_lose_10 : decode cX5_lose 10 = .ok (.getfield 61, 3) := by decide +kernel
theorem dX5_lose_13 : decode cX5_lose 13 = .ok (.iload_n 1, 1) := by decide +kernel
theorem dX5_lose_14 : decode cX5_lose 14 = .ok (.iaload, 1) := by decide +kernel
theorem dX5_lose_15 : decode cX5_lose 15 = .ok (.ifCond .ge 7, 3) := by decide +kernel
theorem dX5_lose_18 : decode cX5_lose 18 = .ok (.iconst 0, 1) := by decide +kernel
theorem dX5_lose_19 : decode cX5_lose 19 = .ok (.goto 4, 3) := by decide +kernel
theorem dX5_lose_22 : decode cX5_lose 22 = .ok (.iconst 1, 1) := by decide +kernel
theorem dX5_lose_23 : decode cX5_lose 23 = .ok (.istore_n 2, 1) := by decide +kernel
theorem dX5_lose_24 : decode cX5_lose 24 = .ok (.aload_n 0, 1) := by decide +kernel
theorem dX5_lose_25 : decode cX5_lose 25 = .ok (.getfield 61, 3) := by decide +kernel
theorem dX5_lose_28 : decode cX5_lose 28 = .ok (.iload_n 1, 1) := by decide +kernel
theorem dX5_lose_29 : decode cX5_lose 29 = .ok (.iconst (-1), 1) := by decide +kernel
theorem dX5_lose_30 : decode cX5_lose 30 = .ok (.iastore, 1) := by decide +kernel
theorem dX5_lose_31 : decode cX5_lose 31 = .ok (.iload_n 2, 1) := by decide +kernel
theorem dX5_lose_32 : decode cX5_lose 32 = .ok (.ireturn, 1) := by decide +kernel
theorem dX5_noCell_0 : decode cX5_noCell 0 = .ok (.aload_n 0, 1) := by decide +kernel
theorem dX5_noCell_1 : decode cX5_noCell 1 = .ok (.getfield 61, 3) := by decide +kernel
theorem dX5_noCell_4 : decode cX5_noCell 4 = .ok (.iload_n 1, 1) := by decide +kernel
theorem dX5_noCell_5 : decode cX5_noCell 5 = .ok (.iaload, 1) := by decide +kernel
theorem dX5_noCell_6 : decode cX5_noCell 6 = .ok (.ifCond .ge 7, 3) := by decide +kernel
theorem dX5_noCell_9 : decode cX5_noCell 9 = .ok (.iconst 1, 1) := by decide +kernel
theorem dX5_noCell_10 : decode cX5_noCell 10 = .ok (.goto 26, 3) := by decide +kernel
theorem dX5_noCell_13 : decode cX5_noCell 13 = .ok (.iload_n 2, 1) := by decide +kernel
theorem dX5_noCell_14 : decode cX5_noCell 14 = .ok (.i2l, 1) := by decide +kernel
theorem dX5_noCell_15 : decode cX5_noCell 15 = .ok (.lconst 0, 1) := by decide +kernel
theorem dX5_noCell_16 : decode cX5_noCell 16 = .ok (.aload_n 0, 1) := by decide +kernel
theorem dX5_noCell_17 : decode cX5_noCell 17 = .ok (.getfield 61, 3) := by decide +kernel
theorem dX5_noCell_20 : decode cX5_noCell 20 = .ok (.iload_n 1, 1) := by decide +kernel
theorem dX5_noCell_21 : decode cX5_noCell 21 = .ok (.iaload, 1) := by decide +kernel
theorem dX5_noCell_22 : decode cX5_noCell 22 = .ok (.i2l, 1) := by decide +kernel
theorem dX5_noCell_23 : decode cX5_noCell 23 = .ok (.lconst 1, 1) := by decide +kernel
theorem dX5_noCell_24 : decode cX5_noCell 24 = .ok (.lsub, 1) := by decide +kernel
theorem dX5_noCell_25 : decode cX5_noCell 25 = .ok (.invokestatic 91, 3) := by decide +kernel
theorem dX5_noCell_28 : decode cX5_noCell 28 = .ok (.ifCond .eq 7, 3) := by decide +kernel
theorem dX5_noCell_31 : decode cX5_noCell 31 = .ok (.iconst 0, 1) := by decide +kernel
theorem dX5_noCell_32 : decode cX5_noCell 32 = .ok (.goto 4, 3) := by decide +kernel
theorem dX5_noCell_35 : decode cX5_noCell 35 = .ok (.iconst 3, 1) := by decide +kernel
theorem dX5_noCell_36 : decode cX5_noCell 36 = .ok (.ireturn, 1) := by decide +kernel
theorem dX5_put_0 : decode cX5_put 0 = .ok (.iload_n 1, 1) := by decide +kernel
theorem dX5_put_1 : decode cX5_put 1 = .ok (.invokestatic 137, 3) := by decide +kernel
theorem dX5_put_4 : decode cX5_put 4 = .ok (.ifCond .eq 9, 3) := by decide +kernel
theorem dX5_put_7 : decode cX5_put 7 = .ok (.aload_n 0, 1) := by decide +kernel
theorem dX5_put_8 : decode cX5_put 8 = .ok (.iconst (-1), 1) := by decide +kernel
theorem dX5_put_9 : decode cX5_put 9 = .ok (.invokevirtual 141, 3) := by decide +kernel
theorem dX5_put_12 : decode cX5_put 12 = .ok (.ireturn, 1) := by decide +kernel
theorem dX5_put_13 : decode cX5_put 13 = .ok (.aload_n 0, 1) := by decide +kernel
theorem dX5_put_14 : decode cX5_put 14 = .ok (.iload_n 1, 1) := by decide +kernel
theorem dX5_put_15 : decode cX5_put 15 = .ok (.iload_n 2, 1) := by decide +kernel
theorem dX5_put_16 : decode cX5_put 16 = .ok (.invokevirtual 229, 3) := by decide +kernel
theorem dX5_put_19 : decode cX5_put 19 = .ok (.ifCond .le 14, 3) := by decide +kernel
theorem dX5_put_22 : decode cX5_put 22 = .ok (.aload_n 0, 1) := by decide +kernel
theorem dX5_put_23 : decode cX5_put 23 = .ok (.aload_n 0, 1) := by decide +kernel
theorem dX5_put_24 : decode cX5_put 24 = .ok (.iload_n 1, 1) := by decide +kernel
theorem dX5_put_25 : decode cX5_put 25 = .ok (.iload_n 2, 1) := by decide +kernel
theorem dX5_put_26 : decode cX5_put 26 = .ok (.invokevirtual 229, 3) := by decide +kernel
theorem dX5_put_29 : decode cX5_put 29 = .ok (.invokevirtual 129, 3) := by decide +kernel
theorem dX5_put_32 : decode cX5_put 32 = .ok (.ireturn, 1) := by decide +kernel
theorem dX5_put_33 : decode cX5_put 33 = .ok (.aload_n 0, 1) := by decide +kernel
theorem dX5_put_34 : decode cX5_put 34 = .ok (.getfield 67, 3) := by decide +kernel
theorem dX5_put_37 : decode cX5_put 37 = .ok (.bipush 60, 2) := by decide +kernel
theorem dX5_put_39 : decode cX5_put 39 = .ok (.iload_n 1, 1) := by decide +kernel
theorem dX5_put_40 : decode cX5_put 40 = .ok (.imul, 1) := by decide +kernel
theorem dX5_put_41 : decode cX5_put 41 = .ok (.iload_n 2, 1) := by decide +kernel
theorem dX5_put_42 : decode cX5_put 42 = .ok (.iadd, 1) := by decide +kernel
theorem dX5_put_43 : decode cX5_put 43 = .ok (.aload_n 0, 1) := by decide +kernel
theorem dX5_put_44 : decode cX5_put 44 = .ok (.getfield 64, 3) := by decide +kernel
theorem dX5_put_47 : decode cX5_put 47 = .ok (.iload_n 1, 1) := by decide +kernel
theorem dX5_put_48 : decode cX5_put 48 = .ok (.iaload, 1) := by decide +kernel
theorem dX5_put_49 : decode cX5_put 49 = .ok (.ifCond .ne 8, 3) := by decide +kernel
theorem dX5_put_52 : decode cX5_put 52 = .ok (.iload_n 3, 1) := by decide +kernel
theorem dX5_put_53 : decode cX5_put 53 = .ok (.i2b, 1) := by decide +kernel
theorem dX5_put_54 : decode cX5_put 54 = .ok (.goto 19, 3) := by decide +kernel
theorem dX5_put_57 : decode cX5_put 57 = .ok (.aload_n 0, 1) := by decide +kernel
theorem dX5_put_58 : decode cX5_put 58 = .ok (.getfield 64, 3) := by decide +kernel
theorem dX5_put_61 : decode cX5_put 61 = .ok (.iload_n 1, 1) := by decide +kernel
theorem dX5_put_62 : decode cX5_put 62 = .ok (.iaload, 1) := by decide +kernel
theorem dX5_put_63 : decode cX5_put 63 = .ok (.iconst 1, 1) := by decide +kernel
theorem dX5_put_64 : decode cX5_put 64 = .ok (.if_icmp .ne 8, 3) := by decide +kernel
theorem dX5_put_67 : decode cX5_put 67 = .ok (.iload_n 3, 1) := by decide +kernel
theorem dX5_put_68 : decode cX5_put 68 = .ok (.i2s, 1) := by decide +kernel
theorem dX5_put_69 : decode cX5_put 69 = .ok (.goto 4, 3) := by decide +kernel
theorem dX5_put_72 : decode cX5_put 72 = .ok (.iload_n 3, 1) := by decide +kernel
theorem dX5_put_73 : decode cX5_put 73 = .ok (.iastore, 1) := by decide +kernel
theorem dX5_put_74 : decode cX5_put 74 = .ok (.aload_n 0, 1) := by decide +kernel
theorem dX5_put_75 : decode cX5_put 75 = .ok (.iconst 1, 1) := by decide +kernel
theorem dX5_put_76 : decode cX5_put 76 = .ok (.invokevirtual 141, 3) := by decide +kernel
theorem dX5_put_79 : decode cX5_put 79 = .ok (.ireturn, 1) := by decide +kernel
theorem dX5_cell_0 : decode cX5_cell 0 = .ok (.aload_n 0, 1) := by decide +kernel
theorem dX5_cell_1 : decode cX5_cell 1 = .ok (.iconst 0, 1) := by decide +kernel
theorem dX5_cell_2 : decode cX5_cell 2 = .ok (.putfield 81, 3) := by decide +kernel
theorem dX5_cell_5 : decode cX5_cell 5 = .ok (.iload_n 1, 1) := by decide +kernel
theorem dX5_cell_6 : decode cX5_cell 6 = .ok (.invokestatic 137, 3) := by decide +kernel
theorem dX5_cell_9 : decode cX5_cell 9 = .ok (.ifCond .ne 15, 3) := by decide +kernel
theorem dX5_cell_12 : decode cX5_cell 12 = .ok (.iload_n 3, 1) := by decide +kernel
theorem dX5_cell_13 : decode cX5_cell 13 = .ok (.i2l, 1) := by decide +kernel
theorem dX5_cell_14 : decode cX5_cell 14 = .ok (.lconst 0, 1) := by decide +kernel
theorem dX5_cell_15 : decode cX5_cell 15 = .ok (.ldc2_w 98, 3) := by decide +kernel
theorem dX5_cell_18 : decode cX5_cell 18 = .ok (.invokestatic 91, 3) := by decide +kernel
theorem dX5_cell_21 : decode cX5_cell 21 = .ok (.ifCond .ne 7, 3) := by decide +kernel
theorem dX5_cell_24 : decode cX5_cell 24 = .ok (.invokestatic 84, 3) := by decide +kernel
theorem dX5_cell_27 : decode cX5_cell 27 = .ok (.lreturn, 1) := by decide +kernel
theorem dX5_cell_28 : decode cX5_cell 28 = .ok (.aload_n 0, 1) := by decide +kernel
theorem dX5_cell_29 : decode cX5_cell 29 = .ok (.getfield 61, 3) := by decide +kernel
theorem dX5_cell_32 : decode cX5_cell 32 = .ok (.iload_n 1, 1) := by decide +kernel
theorem dX5_cell_33 : decode cX5_cell 33 = .ok (.iaload, 1) := by decide +kernel
theorem dX5_cell_34 : decode cX5_cell 34 = .ok (.ifCond .lt 19, 3) := by decide +kernel
theorem dX5_cell_37 : decode cX5_cell 37 = .ok (.aload_n 0, 1) := by decide +kernel
theorem dX5_cell_38 : decode cX5_cell 38 = .ok (.getfield 64, 3) := by decide +kernel
theorem dX5_cell_41 : decode cX5_cell 41 = .ok (.iload_n 1, 1) := by decide +kernel
theorem dX5_cell_42 : decode cX5_cell 42 = .ok (.iaload, 1) := by decide +kernel
theorem dX5_cell_43 : decode cX5_cell 43 = .ok (.iload_n 3, 1) := by decide +kernel
theorem dX5_cell_44 : decode cX5_cell 44 = .ok (.if_icmp .eq 9, 3) := by decide +kernel
theorem dX5_cell_47 : decode cX5_cell 47 = .ok (.aload_n 0, 1) := by decide +kernel
theorem dX5_cell_48 : decode cX5_cell 48 = .ok (.iconst 2, 1) := by decide +kernel
theorem dX5_cell_49 : decode cX5_cell 49 = .ok (.invokevirtual 232, 3) := by decide +kernel
theorem dX5_cell_52 : decode cX5_cell 52 = .ok (.lreturn, 1) := by decide +kernel
theorem dX5_cell_53 : decode cX5_cell 53 = .ok (.aload_n 0, 1) := by decide +kernel
theorem dX5_cell_54 : decode cX5_cell 54 = .ok (.iload_n 1, 1) := by decide +kernel
theorem dX5_cell_55 : decode cX5_cell 55 = .ok (.iload_n 2, 1) := by decide +kernel
theorem dX5_cell_56 : decode cX5_cell 56 = .ok (.invokevirtual 229, 3) := by decide +kernel
theorem dX5_cell_59 : decode cX5_cell 59 = .ok (.ifCond .le 16, 3) := by decide +kernel
theorem dX5_cell_62 : decode cX5_cell 62 = .ok (.aload_n 0, 1) := by decide +kernel
theorem dX5_cell_63 : decode cX5_cell 63 = .ok (.aload_n 0, 1) := by decide +kernel
theorem dX5_cell_64 : decode cX5_cell 64 = .ok (.iload_n 1, 1) := by decide +kernel
theorem dX5_cell_65 : decode cX5_cell 65 = .ok (.iload_n 2, 1) := by decide +kernel
theorem dX5_cell_66 : decode cX5_cell 66 = .ok (.invokevirtual 229, 3) := by decide +kernel
theorem dX5_cell_69 : decode cX5_cell 69 = .ok (.invokevirtual 232, 3) := by decide +kernel
theorem dX5_cell_72 : decode cX5_cell 72 = .ok (.goto 15, 3) := by decide +kernel
theorem dX5_cell_75 : decode cX5_cell 75 = .ok (.aload_n 0, 1) := by decide +kernel
theorem dX5_cell_76 : decode cX5_cell 76 = .ok (.getfield 67, 3) := by decide +kernel
theorem dX5_cell_79 : decode cX5_cell 79 = .ok (.bipush 60, 2) := by decide +kernel
theorem dX5_cell_81 : decode cX5_cell 81 = .ok (.iload_n 1, 1) := by decide +kernel
theorem dX5_cell_82 : decode cX5_cell 82 = .ok (.imul, 1) := by decide +kernel
theorem dX5_cell_83 : decode cX5_cell 83 = .ok (.iload_n 2, 1) := by decide +kernel
theorem dX5_cell_84 : decode cX5_cell 84 = .ok (.iadd, 1) := by decide +kernel
theorem dX5_cell_85 : decode cX5_cell 85 = .ok (.iaload, 1) := by decide +kernel
theorem dX5_cell_86 : decode cX5_cell 86 = .ok (.i2l, 1) := by decide +kernel
theorem dX5_cell_87 : decode cX5_cell 87 = .ok (.lreturn, 1) := by decide +kernel
theorem dX5_isBeyond_0 : decode cX5_isBeyond 0 = .ok (.iload_n 0, 1) := by decide +kernel
theorem dX5_isBeyond_1 : decode cX5_isBeyond 1 = .ok (.ifCond .lt 19, 3) := by decide +kernel
theorem dX5_isBeyond_4 : decode cX5_isBeyond 4 = .ok (.lload_n 1, 1) := by decide +kernel
theorem dX5_isBeyond_5 : decode cX5_isBeyond 5 = .ok (.lconst 0, 1) := by decide +kernel
theorem dX5_isBeyond_6 : decode cX5_isBeyond 6 = .ok (.lcmp, 1) := by decide +kernel
theorem dX5_isBeyond_7 : decode cX5_isBeyond 7 = .ok (.ifCond .lt 13, 3) := by decide +kernel
theorem dX5_isBeyond_10 : decode cX5_isBeyond 10 = .ok (.iload_n 0, 1) := by decide +kernel
theorem dX5_isBeyond_11 : decode cX5_isBeyond 11 = .ok (.i2l, 1) := by decide +kernel
theorem dX5_isBeyond_12 : decode cX5_isBeyond 12 = .ok (.lload_n 1, 1) := by decide +kernel
theorem dX5_isBeyond_13 : decode cX5_isBeyond 13 = .ok (.ladd, 1) := by decide +kernel
theorem dX5_isBeyond_14 : decode cX5_isBeyond 14 = .ok (.iload_n 3, 1) := by decide +kernel
theorem dX5_isBeyond_15 : decode cX5_isBeyond 15 = .ok (.i2l, 1) := by decide +kernel
theorem dX5_isBeyond_16 : decode cX5_isBeyond 16 = .ok (.lcmp, 1) := by decide +kernel
theorem dX5_isBeyond_17 : decode cX5_isBeyond 17 = .ok (.ifCond .le 7, 3) := by decide +kernel
theorem dX5_isBeyond_20 : decode cX5_isBeyond 20 = .ok (.iconst 1, 1) := by decide +kernel
theorem dX5_isBeyond_21 : decode cX5_isBeyond 21 = .ok (.goto 4, 3) := by decide +kernel
theorem dX5_isBeyond_24 : decode cX5_isBeyond 24 = .ok (.iconst 0, 1) := by decide +kernel
theorem dX5_isBeyond_25 : decode cX5_isBeyond 25 = .ok (.ireturn, 1) := by decide +kernel
theorem dX5_copy_0 : decode cX5_copy 0 = .ok (.iload_n 1, 1) := by decide +kernel
theorem dX5_copy_1 : decode cX5_copy 1 = .ok (.invokestatic 137, 3) := by decide +kernel
theorem dX5_copy_4 : decode cX5_copy 4 = .ok (.ifCond .ne 10, 3) := by decide +kernel
theorem dX5_copy_7 : decode cX5_copy 7 = .ok (.iload_n 3, 1) := by decide +kernel
theorem dX5_copy_8 : decode cX5_copy 8 = .ok (.invokestatic 137, 3) := by decide +kernel
theorem dX5_copy_11 : decode cX5_copy 11 = .ok (.ifCond .eq 9, 3) := by decide +kernel
theorem dX5_copy_14 : decode cX5_copy 14 = .ok (.aload_n 0, 1) := by decide +kernel
theorem dX5_copy_15 : decode cX5_copy 15 = .ok (.iconst (-1), 1) := by decide +kernel
theorem dX5_copy_16 : decode cX5_copy 16 = .ok (.invokevirtual 141, 3) := by decide +kernel
theorem dX5_copy_19 : decode cX5_copy 19 = .ok (.ireturn, 1) := by decide +kernel
theorem dX5_copy_20 : decode cX5_copy 20 = .ok (.aload_n 0, 1) := by decide +kernel
theorem dX5_copy_21 : decode cX5_copy 21 = .ok (.getfield 61, 3) := by decide +kernel
theorem dX5_copy_24 : decode cX5_copy 24 = .ok (.iload_n 1, 1) := by decide +kernel
theorem dX5_copy_25 : decode cX5_copy 25 = .ok (.iaload, 1) := by decide +kernel
theorem dX5_copy_26 : decode cX5_copy 26 = .ok (.ifCond .lt 12, 3) := by decide +kernel
theorem dX5_copy_29 : decode cX5_copy 29 = .ok (.aload_n 0, 1) := by decide +kernel
theorem dX5_copy_30 : decode cX5_copy 30 = .ok (.getfield 61, 3) := by decide +kernel
theorem dX5_copy_33 : decode cX5_copy 33 = .ok (.iload_n 3, 1) := by decide +kernel
theorem dX5_copy_34 : decode cX5_copy 34 = .ok (.iaload, 1) := by decide +kernel
theorem dX5_copy_35 : decode cX5_copy 35 = .ok (.ifCond .ge 9, 3) := by decide +kernel
theorem dX5_copy_38 : decode cX5_copy 38 = .ok (.aload_n 0, 1) := by decide +kernel
theorem dX5_copy_39 : decode cX5_copy 39 = .ok (.iconst 1, 1) := by decide +kernel
theorem dX5_copy_40 : decode cX5_copy 40 = .ok (.invokevirtual 129, 3) := by decide +kernel
theorem dX5_copy_43 : decode cX5_copy 43 = .ok (.ireturn, 1) := by decide +kernel
theorem dX5_copy_44 : decode cX5_copy 44 = .ok (.aload_n 0, 1) := by decide +kernel
theorem dX5_copy_45 : decode cX5_copy 45 = .ok (.getfield 64, 3) := by decide +kernel
theorem dX5_copy_48 : decode cX5_copy 48 = .ok (.iload_n 1, 1) := by decide +kernel
theorem dX5_copy_49 : decode cX5_copy 49 = .ok (.iaload, 1) := by decide +kernel
theorem dX5_copy_50 : decode cX5_copy 50 = .ok (.aload_n 0, 1) := by decide +kernel
theorem dX5_copy_51 : decode cX5_copy 51 = .ok (.getfield 64, 3) := by decide +kernel
theorem dX5_copy_54 : decode cX5_copy 54 = .ok (.iload_n 3, 1) := by decide +kernel
theorem dX5_copy_55 : decode cX5_copy 55 = .ok (.iaload, 1) := by decide +kernel
theorem dX5_copy_56 : decode cX5_copy 56 = .ok (.if_icmp .eq 9, 3) := by decide +kernel
theorem dX5_copy_59 : decode cX5_copy 59 = .ok (.aload_n 0, 1) := by decide +kernel
theorem dX5_copy_60 : decode cX5_copy 60 = .ok (.iconst 2, 1) := by decide +kernel
theorem dX5_copy_61 : decode cX5_copy 61 = .ok (.invokevirtual 129, 3) := by decide +kernel
theorem dX5_copy_64 : decode cX5_copy 64 = .ok (.ireturn, 1) := by decide +kernel
theorem dX5_copy_65 : decode cX5_copy 65 = .ok (.iload_n 2, 1) := by decide +kernel
theorem dX5_copy_66 : decode cX5_copy 66 = .ok (.iload 5, 2) := by decide +kernel
theorem dX5_copy_68 : decode cX5_copy 68 = .ok (.i2l, 1) := by decide +kernel
theorem dX5_copy_69 : decode cX5_copy 69 = .ok (.aload_n 0, 1) := by decide +kernel
theorem dX5_copy_70 : decode cX5_copy 70 = .ok (.getfield 61, 3) := by decide +kernel
theorem dX5_copy_73 : decode cX5_copy 73 = .ok (.iload_n 1, 1) := by decide +kernel
theorem dX5_copy_74 : decode cX5_copy 74 = .ok (.iaload, 1) := by decide +kernel
theorem dX5_copy_75 : decode cX5_copy 75 = .ok (.invokestatic 133, 3) := by decide +kernel
theorem dX5_copy_78 : decode cX5_copy 78 = .ok (.ifCond .ne 20, 3) := by decide +kernel
theorem dX5_copy_81 : decode cX5_copy 81 = .ok (.iload 4, 2) := by decide +kernel
theorem dX5_copy_83 : decode cX5_copy 83 = .ok (.iload 5, 2) := by decide +kernel
theorem dX5_copy_85 : decode cX5_copy 85 = .ok (.i2l, 1) := by decide +kernel
theorem dX5_copy_86 : decode cX5_copy 86 = .ok (.aload_n 0, 1) := by decide +kernel
theorem dX5_copy_87 : decode cX5_copy 87 = .ok (.getfield 61, 3) := by decide +kernel
theorem dX5_copy_90 : decode cX5_copy 90 = .ok (.iload_n 3, 1) := by decide +kernel
theorem dX5_copy_91 : decode cX5_copy 91 = .ok (.iaload, 1) := by decide +kernel
theorem dX5_copy_92 : decode cX5_copy 92 = .ok (.invokestatic 133, 3) := by decide +kernel
theorem dX5_copy_95 : decode cX5_copy 95 = .ok (.ifCond .eq 9, 3) := by decide +kernel
theorem dX5_copy_98 : decode cX5_copy 98 = .ok (.aload_n 0, 1) := by decide +kernel
theorem dX5_copy_99 : decode cX5_copy 99 = .ok (.iconst 3, 1) := by decide +kernel
theorem dX5_copy_100 : decode cX5_copy 100 = .ok (.invokevirtual 129, 3) := by decide +kernel
theorem dX5_copy_103 : decode cX5_copy 103 = .ok (.ireturn, 1) := by decide +kernel
theorem dX5_copy_104 : decode cX5_copy 104 = .ok (.iconst 0, 1) := by decide +kernel
theorem dX5_copy_105 : decode cX5_copy 105 = .ok (.istore 6, 2) := by decide +kernel
theorem dX5_copy_107 : decode cX5_copy 107 = .ok (.iload 6, 2) := by decide +kernel
theorem dX5_copy_109 : decode cX5_copy 109 = .ok (.iload 5, 2) := by decide +kernel
theorem dX5_copy_111 : decode cX5_copy 111 = .ok (.if_icmp .ge 30, 3) := by decide +kernel
theorem dX5_copy_114 : decode cX5_copy 114 = .ok (.aload_n 0, 1) := by decide +kernel
theorem dX5_copy_115 : decode cX5_copy 115 = .ok (.getfield 70, 3) := by decide +kernel
theorem dX5_copy_118 : decode cX5_copy 118 = .ok (.iload 6, 2) := by decide +kernel
theorem dX5_copy_120 : decode cX5_copy 120 = .ok (.aload_n 0, 1) := by decide +kernel
theorem dX5_copy_121 : decode cX5_copy 121 = .ok (.getfield 67, 3) := by decide +kernel
theorem dX5_copy_124 : decode cX5_copy 124 = .ok (.bipush 60, 2) := by decide +kernel
theorem dX5_copy_126 : decode cX5_copy 126 = .ok (.iload_n 1, 1) := by decide +kernel
theorem dX5_copy_127 : decode cX5_copy 127 = .ok (.imul, 1) := by decide +kernel
theorem dX5_copy_128 : decode cX5_copy 128 = .ok (.iload_n 2, 1) := by decide +kernel
theorem dX5_copy_129 : decode cX5_copy 129 = .ok (.iadd, 1) := by decide +kernel
theorem dX5_copy_130 : decode cX5_copy 130 = .ok (.iload 6, 2) := by decide +kernel
theorem dX5_copy_132 : decode cX5_copy 132 = .ok (.iadd, 1) := by decide +kernel
theorem dX5_copy_133 : decode cX5_copy 133 = .ok (.iaload, 1) := by decide +kernel
theorem dX5_copy_134 : decode cX5_copy 134 = .ok (.iastore, 1) := by decide +kernel
theorem dX5_copy_135 : decode cX5_copy 135 = .ok (.iinc 6 1, 3) := by decide +kernel
theorem dX5_copy_138 : decode cX5_copy 138 = .ok (.goto (-31), 3) := by decide +kernel
theorem dX5_copy_141 : decode cX5_copy 141 = .ok (.iconst 0, 1) := by decide +kernel
theorem dX5_copy_142 : decode cX5_copy 142 = .ok (.istore 6, 2) := by decide +kernel
theorem dX5_copy_144 : decode cX5_copy 144 = .ok (.iload 6, 2) := by decide +kernel
theorem dX5_copy_146 : decode cX5_copy 146 = .ok (.iload 5, 2) := by decide +kernel
theorem dX5_copy_148 : decode cX5_copy 148 = .ok (.if_icmp .ge 31, 3) := by decide +kernel
theorem dX5_copy_151 : decode cX5_copy 151 = .ok (.aload_n 0, 1) := by decide +kernel
theorem dX5_copy_152 : decode cX5_copy 152 = .ok (.getfield 67, 3) := by decide +kernel
theorem dX5_copy_155 : decode cX5_copy 155 = .ok (.bipush 60, 2) := by decide +kernel
theorem dX5_copy_157 : decode cX5_copy 157 = .ok (.iload_n 3, 1) := by decide +kernel
theorem dX5_copy_158 : decode cX5_copy 158 = .ok (.imul, 1) := by decide +kernel
theorem dX5_copy_159 : decode cX5_copy 159 = .ok (.iload 4, 2) := by decide +kernel
theorem dX5_copy_161 : decode cX5_copy 161 = .ok (.iadd, 1) := by decide +kernel
theorem dX5_copy_162 : decode cX5_copy 162 = .ok (.iload 6, 2) := by decide +kernel
theorem dX5_copy_164 : decode cX5_copy 164 = .ok (.iadd, 1) := by decide +kernel
theorem dX5_copy_165 : decode cX5_copy 165 = .ok (.aload_n 0, 1) := by decide +kernel
theorem dX5_copy_166 : decode cX5_copy 166 = .ok (.getfield 70, 3) := by decide +kernel
theorem dX5_copy_169 : decode cX5_copy 169 = .ok (.iload 6, 2) := by decide +kernel
theorem dX5_copy_171 : decode cX5_copy 171 = .ok (.iaload, 1) := by decide +kernel
theorem dX5_copy_172 : decode cX5_copy 172 = .ok (.iastore, 1) := by decide +kernel
theorem dX5_copy_173 : decode cX5_copy 173 = .ok (.iinc 6 1, 3) := by decide +kernel
theorem dX5_copy_176 : decode cX5_copy 176 = .ok (.goto (-32), 3) := by decide +kernel
theorem dX5_copy_179 : decode cX5_copy 179 = .ok (.aload_n 0, 1) := by decide +kernel
theorem dX5_copy_180 : decode cX5_copy 180 = .ok (.iload 5, 2) := by decide +kernel
theorem dX5_copy_182 : decode cX5_copy 182 = .ok (.invokevirtual 141, 3) := by decide +kernel
theorem dX5_copy_185 : decode cX5_copy 185 = .ok (.ireturn, 1) := by decide +kernel
theorem dX5_traced_0 : decode cX5_traced 0 = .ok (.aload_n 0, 1) := by decide +kernel
theorem dX5_traced_1 : decode cX5_traced 1 = .ok (.bipush 31, 2) := by decide +kernel
theorem dX5_traced_3 : decode cX5_traced 3 = .ok (.aload_n 0, 1) := by decide +kernel
theorem dX5_traced_4 : decode cX5_traced 4 = .ok (.getfield 235, 3) := by decide +kernel
theorem dX5_traced_7 : decode cX5_traced 7 = .ok (.imul, 1) := by decide +kernel
theorem dX5_traced_8 : decode cX5_traced 8 = .ok (.iload_n 1, 1) := by decide +kernel
theorem dX5_traced_9 : decode cX5_traced 9 = .ok (.iadd, 1) := by decide +kernel
theorem dX5_traced_10 : decode cX5_traced 10 = .ok (.putfield 235, 3) := by decide +kernel
theorem dX5_traced_13 : decode cX5_traced 13 = .ok (.return_, 1) := by decide +kernel
theorem dX5_tell_0 : decode cX5_tell 0 = .ok (.aload_n 0, 1) := by decide +kernel
theorem dX5_tell_1 : decode cX5_tell 1 = .ok (.iload_n 1, 1) := by decide +kernel
theorem dX5_tell_2 : decode cX5_tell 2 = .ok (.invokevirtual 173, 3) := by decide +kernel
theorem dX5_tell_5 : decode cX5_tell 5 = .ok (.ifCond .eq 5, 3) := by decide +kernel
theorem dX5_tell_8 : decode cX5_tell 8 = .ok (.iconst (-1), 1) := by decide +kernel
theorem dX5_tell_9 : decode cX5_tell 9 = .ok (.ireturn, 1) := by decide +kernel
theorem dX5_tell_10 : decode cX5_tell 10 = .ok (.aload_n 0, 1) := by decide +kernel
theorem dX5_tell_11 : decode cX5_tell 11 = .ok (.getfield 16, 3) := by decide +kernel
theorem dX5_tell_14 : decode cX5_tell 14 = .ok (.iload_n 1, 1) := by decide +kernel
theorem dX5_tell_15 : decode cX5_tell 15 = .ok (.iaload, 1) := by decide +kernel
theorem dX5_tell_16 : decode cX5_tell 16 = .ok (.istore_n 2, 1) := by decide +kernel
theorem dX5_tell_17 : decode cX5_tell 17 = .ok (.iload_n 2, 1) := by decide +kernel
theorem dX5_tell_18 : decode cX5_tell 18 = .ok (.iconst 2, 1) := by decide +kernel
theorem dX5_tell_19 : decode cX5_tell 19 = .ok (.if_icmp .ne 8, 3) := by decide +kernel
theorem dX5_tell_22 : decode cX5_tell 22 = .ok (.aload_n 0, 1) := by decide +kernel
theorem dX5_tell_23 : decode cX5_tell 23 = .ok (.iconst 3, 1) := by decide +kernel
theorem dX5_tell_24 : decode cX5_tell 24 = .ok (.invokevirtual 238, 3) := by decide +kernel
theorem dX5_tell_27 : decode cX5_tell 27 = .ok (.iload_n 2, 1) := by decide +kernel
theorem dX5_tell_28 : decode cX5_tell 28 = .ok (.ifCond .le 8, 3) := by decide +kernel
theorem dX5_tell_31 : decode cX5_tell 31 = .ok (.aload_n 0, 1) := by decide +kernel
theorem dX5_tell_32 : decode cX5_tell 32 = .ok (.iconst 2, 1) := by decide +kernel
theorem dX5_tell_33 : decode cX5_tell 33 = .ok (.invokevirtual 238, 3) := by decide +kernel
theorem dX5_tell_36 : decode cX5_tell 36 = .ok (.aload_n 0, 1) := by decide +kernel
theorem dX5_tell_37 : decode cX5_tell 37 = .ok (.iconst 1, 1) := by decide +kernel
theorem dX5_tell_38 : decode cX5_tell 38 = .ok (.invokevirtual 238, 3) := by decide +kernel
theorem dX5_tell_41 : decode cX5_tell 41 = .ok (.iload_n 2, 1) := by decide +kernel
theorem dX5_tell_42 : decode cX5_tell 42 = .ok (.iconst 2, 1) := by decide +kernel
theorem dX5_tell_43 : decode cX5_tell 43 = .ok (.if_icmp .ne 8, 3) := by decide +kernel
theorem dX5_tell_46 : decode cX5_tell 46 = .ok (.aload_n 0, 1) := by decide +kernel
theorem dX5_tell_47 : decode cX5_tell 47 = .ok (.iconst 1, 1) := by decide +kernel
theorem dX5_tell_48 : decode cX5_tell 48 = .ok (.invokevirtual 238, 3) := by decide +kernel
theorem dX5_tell_51 : decode cX5_tell 51 = .ok (.aload_n 0, 1) := by decide +kernel
theorem dX5_tell_52 : decode cX5_tell 52 = .ok (.getfield 19, 3) := by decide +kernel
theorem dX5_tell_55 : decode cX5_tell 55 = .ok (.iload_n 1, 1) := by decide +kernel
theorem dX5_tell_56 : decode cX5_tell 56 = .ok (.iaload, 1) := by decide +kernel
theorem dX5_tell_57 : decode cX5_tell 57 = .ok (.istore_n 3, 1) := by decide +kernel
theorem dX5_tell_58 : decode cX5_tell 58 = .ok (.iload_n 2, 1) := by decide +kernel
theorem dX5_tell_59 : decode cX5_tell 59 = .ok (.ifCond .ne 7, 3) := by decide +kernel
theorem dX5_tell_62 : decode cX5_tell 62 = .ok (.iload_n 3, 1) := by decide +kernel
theorem dX5_tell_63 : decode cX5_tell 63 = .ok (.goto 21, 3) := by decide +kernel
theorem dX5_tell_66 : decode cX5_tell 66 = .ok (.iload_n 2, 1) := by decide +kernel
theorem dX5_tell_67 : decode cX5_tell 67 = .ok (.iconst 1, 1) := by decide +kernel
theorem dX5_tell_68 : decode cX5_tell 68 = .ok (.if_icmp .ne 10, 3) := by decide +kernel
theorem dX5_tell_71 : decode cX5_tell 71 = .ok (.iload_n 3, 1) := by decide +kernel
theorem dX5_tell_72 : decode cX5_tell 72 = .ok (.bipush 100, 2) := by decide +kernel
theorem dX5_tell_74 : decode cX5_tell 74 = .ok (.iadd, 1) := by decide +kernel
theorem dX5_tell_75 : decode cX5_tell 75 = .ok (.goto 9, 3) := by decide +kernel
theorem dX5_tell_78 : decode cX5_tell 78 = .ok (.iconst 2, 1) := by decide +kernel
theorem dX5_tell_79 : decode cX5_tell 79 = .ok (.iload_n 3, 1) := by decide +kernel
theorem dX5_tell_80 : decode cX5_tell 80 = .ok (.imul, 1) := by decide +kernel
theorem dX5_tell_81 : decode cX5_tell 81 = .ok (.bipush 100, 2) := by decide +kernel
theorem dX5_tell_83 : decode cX5_tell 83 = .ok (.iadd, 1) := by decide +kernel
theorem dX5_tell_84 : decode cX5_tell 84 = .ok (.ireturn, 1) := by decide +kernel
theorem dX5_hush_0 : decode cX5_hush 0 = .ok (.aload_n 0, 1) := by decide +kernel
theorem dX5_hush_1 : decode cX5_hush 1 = .ok (.iload_n 1, 1) := by decide +kernel
theorem dX5_hush_2 : decode cX5_hush 2 = .ok (.invokevirtual 173, 3) := by decide +kernel
theorem dX5_hush_5 : decode cX5_hush 5 = .ok (.ifCond .eq 5, 3) := by decide +kernel
theorem dX5_hush_8 : decode cX5_hush 8 = .ok (.iconst (-1), 1) := by decide +kernel
theorem dX5_hush_9 : decode cX5_hush 9 = .ok (.ireturn, 1) := by decide +kernel
theorem dX5_hush_10 : decode cX5_hush 10 = .ok (.aload_n 0, 1) := by decide +kernel
theorem dX5_hush_11 : decode cX5_hush 11 = .ok (.aload_n 0, 1) := by decide +kernel
theorem dX5_hush_12 : decode cX5_hush 12 = .ok (.getfield 16, 3) := by decide +kernel
theorem dX5_hush_15 : decode cX5_hush 15 = .ok (.iload_n 1, 1) := by decide +kernel
theorem dX5_hush_16 : decode cX5_hush 16 = .ok (.iaload, 1) := by decide +kernel
theorem dX5_hush_17 : decode cX5_hush 17 = .ok (.iconst 2, 1) := by decide +kernel
theorem dX5_hush_18 : decode cX5_hush 18 = .ok (.if_icmp .ne 7, 3) := by decide +kernel
theorem dX5_hush_21 : decode cX5_hush 21 = .ok (.iconst 5, 1) := by decide +kernel
theorem dX5_hush_22 : decode cX5_hush 22 = .ok (.goto 4, 3) := by decide +kernel
theorem dX5_hush_25 : decode cX5_hush 25 = .ok (.iconst 4, 1) := by decide +kernel
theorem dX5_hush_26 : decode cX5_hush 26 = .ok (.invokevirtual 238, 3) := by decide +kernel
theorem dX5_hush_29 : decode cX5_hush 29 = .ok (.aload_n 0, 1) := by decide +kernel
theorem dX5_hush_30 : decode cX5_hush 30 = .ok (.getfield 16, 3) := by decide +kernel
theorem dX5_hush_33 : decode cX5_hush 33 = .ok (.iload_n 1, 1) := by decide +kernel
theorem dX5_hush_34 : decode cX5_hush 34 = .ok (.iaload, 1) := by decide +kernel
theorem dX5_hush_35 : decode cX5_hush 35 = .ok (.iconst 2, 1) := by decide +kernel
theorem dX5_hush_36 : decode cX5_hush 36 = .ok (.if_icmp .ne 8, 3) := by decide +kernel
theorem dX5_hush_39 : decode cX5_hush 39 = .ok (.bipush 80, 2) := by decide +kernel
theorem dX5_hush_41 : decode cX5_hush 41 = .ok (.goto 4, 3) := by decide +kernel
theorem dX5_hush_44 : decode cX5_hush 44 = .ok (.iload_n 1, 1) := by decide +kernel
theorem dX5_hush_45 : decode cX5_hush 45 = .ok (.ireturn, 1) := by decide +kernel
theorem dX5_as_0 : decode cX5_as 0 = .ok (.aload_n 0, 1) := by decide +kernel
theorem dX5_as_1 : decode cX5_as 1 = .ok (.iload_n 1, 1) := by decide +kernel
theorem dX5_as_2 : decode cX5_as 2 = .ok (.invokevirtual 173, 3) := by decide +kernel
theorem dX5_as_5 : decode cX5_as 5 = .ok (.ifCond .eq 9, 3) := by decide +kernel
theorem dX5_as_8 : decode cX5_as 8 = .ok (.aload_n 0, 1) := by decide +kernel
theorem dX5_as_9 : decode cX5_as 9 = .ok (.iconst (-1), 1) := by decide +kernel
theorem dX5_as_10 : decode cX5_as 10 = .ok (.invokevirtual 141, 3) := by decide +kernel
theorem dX5_as_13 : decode cX5_as 13 = .ok (.ireturn, 1) := by decide +kernel
theorem dX5_as_14 : decode cX5_as 14 = .ok (.iload_n 2, 1) := by decide +kernel
theorem dX5_as_15 : decode cX5_as 15 = .ok (.i2l, 1) := by decide +kernel
theorem dX5_as_16 : decode cX5_as 16 = .ok (.lconst 0, 1) := by decide +kernel
theorem dX5_as_17 : decode cX5_as 17 = .ok (.ldc2_w 98, 3) := by decide +kernel
theorem dX5_as_20 : decode cX5_as 20 = .ok (.invokestatic 91, 3) := by decide +kernel
theorem dX5_as_23 : decode cX5_as 23 = .ok (.ifCond .ne 10, 3) := by decide +kernel
theorem dX5_as_26 : decode cX5_as 26 = .ok (.aload_n 0, 1) := by decide +kernel
theorem dX5_as_27 : decode cX5_as 27 = .ok (.bipush (-2), 2) := by decide +kernel
theorem dX5_as_29 : decode cX5_as 29 = .ok (.invokevirtual 141, 3) := by decide +kernel
theorem dX5_as_32 : decode cX5_as 32 = .ok (.ireturn, 1) := by decide +kernel
theorem dX5_as_33 : decode cX5_as 33 = .ok (.aload_n 0, 1) := by decide +kernel
theorem dX5_as_34 : decode cX5_as 34 = .ok (.getfield 16, 3) := by decide +kernel
theorem dX5_as_37 : decode cX5_as 37 = .ok (.iload_n 1, 1) := by decide +kernel
theorem dX5_as_38 : decode cX5_as 38 = .ok (.iaload, 1) := by decide +kernel
theorem dX5_as_39 : decode cX5_as 39 = .ok (.iload_n 2, 1) := by decide +kernel
theorem dX5_as_40 : decode cX5_as 40 = .ok (.if_icmp .lt 11, 3) := by decide +kernel
theorem dX5_as_43 : decode cX5_as 43 = .ok (.aload_n 0, 1) := by decide +kernel
theorem dX5_as_44 : decode cX5_as 44 = .ok (.iconst 1, 1) := by decide +kernel
theorem dX5_as_45 : decode cX5_as 45 = .ok (.invokevirtual 141, 3) := by decide +kernel
theorem dX5_as_48 : decode cX5_as 48 = .ok (.goto 8, 3) := by decide +kernel
theorem dX5_as_51 : decode cX5_as 51 = .ok (.aload_n 0, 1) := by decide +kernel
theorem dX5_as_52 : decode cX5_as 52 = .ok (.iconst 2, 1) := by decide +kernel
theorem dX5_as_53 : decode cX5_as 53 = .ok (.invokevirtual 129, 3) := by decide +kernel
theorem dX5_as_56 : decode cX5_as 56 = .ok (.ireturn, 1) := by decide +kernel
theorem dX5_trace_0 : decode cX5_trace 0 = .ok (.aload_n 0, 1) := by decide +kernel
theorem dX5_trace_1 : decode cX5_trace 1 = .ok (.getfield 235, 3) := by decide +kernel
theorem dX5_trace_4 : decode cX5_trace 4 = .ok (.ireturn, 1) := by decide +kernel
theorem dX5_fault_0 : decode cX5_fault 0 = .ok (.aload_n 0, 1) := by decide +kernel
theorem dX5_fault_1 : decode cX5_fault 1 = .ok (.getfield 81, 3) := by decide +kernel
theorem dX5_fault_4 : decode cX5_fault 4 = .ok (.ireturn, 1) := by decide +kernel
theorem dX5_many_0 : decode cX5_many 0 = .ok (.iload_n 1, 1) := by decide +kernel
theorem dX5_many_1 : decode cX5_many 1 = .ok (.tableswitch 60 0 4 #[35, 40, 45, 50, 55], 35) := by decide +kernel
theorem dX5_many_36 : decode cX5_many 36 = .ok (.aload_n 0, 1) := by decide +kernel
theorem dX5_many_37 : decode cX5_many 37 = .ok (.getfield 95, 3) := by decide +kernel
theorem dX5_many_40 : decode cX5_many 40 = .ok (.ireturn, 1) := by decide +kernel
theorem dX5_many_41 : decode cX5_many 41 = .ok (.aload_n 0, 1) := by decide +kernel
theorem dX5_many_42 : decode cX5_many 42 = .ok (.getfield 88, 3) := by decide +kernel
theorem dX5_many_45 : decode cX5_many 45 = .ok (.ireturn, 1) := by decide +kernel
theorem dX5_many_46 : decode cX5_many 46 = .ok (.aload_n 0, 1) := by decide +kernel
theorem dX5_many_47 : decode cX5_many 47 = .ok (.getfield 151, 3) := by decide +kernel
theorem dX5_many_50 : decode cX5_many 50 = .ok (.ireturn, 1) := by decide +kernel
theorem dX5_many_51 : decode cX5_many 51 = .ok (.aload_n 0, 1) := by decide +kernel
theorem dX5_many_52 : decode cX5_many 52 = .ok (.getfield 161, 3) := by decide +kernel
theorem dX5_many_55 : decode cX5_many 55 = .ok (.ireturn, 1) := by decide +kernel
theorem dX5_many_56 : decode cX5_many 56 = .ok (.aload_n 0, 1) := by decide +kernel
theorem dX5_many_57 : decode cX5_many 57 = .ok (.getfield 164, 3) := by decide +kernel
theorem dX5_many_60 : decode cX5_many 60 = .ok (.ireturn, 1) := by decide +kernel
theorem dX5_many_61 : decode cX5_many 61 = .ok (.bipush (-2), 2) := by decide +kernel
theorem dX5_many_63 : decode cX5_many 63 = .ok (.ireturn, 1) := by decide +kernel
