theorem dJ9_max_7cf53_0 : decode cJ9_max_7cf53 0 = .ok (.iload_n 0, 1) := by decide +kernel
theorem dJ9_max_7cf53_1 : decode cJ9_max_7cf53 1 = .ok (.iload_n 1, 1) := by decide +kernel
theorem dJ9_max_7cf53_2 : decode cJ9_max_7cf53 2 = .ok (.if_icmp .lt 7, 3) := by decide +kernel
theorem dJ9_max_7cf53_5 : decode cJ9_max_7cf53 5 = .ok (.iload_n 0, 1) := by decide +kernel
theorem dJ9_max_7cf53_6 : decode cJ9_max_7cf53 6 = .ok (.goto 4, 3) := by decide +kernel
theorem dJ9_max_7cf53_9 : decode cJ9_max_7cf53 9 = .ok (.iload_n 1, 1) := by decide +kernel
theorem dJ9_max_7cf53_10 : decode cJ9_max_7cf53 10 = .ok (.ireturn, 1) := by decide +kernel
theorem dJ7_fill_53178_0 : decode cJ7_fill_53178 0 = .ok (.iconst 0, 1) := by decide +kernel
theorem dJ7_fill_53178_1 : decode cJ7_fill_53178 1 = .ok (.istore_n 2, 1) := by decide +kernel
theorem dJ7_fill_53178_2 : decode cJ7_fill_53178 2 = .ok (.aload_n 0, 1) := by decide +kernel
theorem dJ7_fill_53178_3 : decode cJ7_fill_53178 3 = .ok (.arraylength, 1) := by decide +kernel
theorem dJ7_fill_53178_4 : decode cJ7_fill_53178 4 = .ok (.istore_n 3, 1) := by decide +kernel
theorem dJ7_fill_53178_5 : decode cJ7_fill_53178 5 = .ok (.iload_n 2, 1) := by decide +kernel
theorem dJ7_fill_53178_6 : decode cJ7_fill_53178 6 = .ok (.iload_n 3, 1) := by decide +kernel
theorem dJ7_fill_53178_7 : decode cJ7_fill_53178 7 = .ok (.if_icmp .ge 13, 3) := by decide +kernel
theorem dJ7_fill_53178_10 : decode cJ7_fill_53178 10 = .ok (.aload_n 0, 1) := by decide +kernel
theorem dJ7_fill_53178_11 : decode cJ7_fill_53178 11 = .ok (.iload_n 2, 1) := by decide +kernel
theorem dJ7_fill_53178_12 : decode cJ7_fill_53178 12 = .ok (.iload_n 1, 1) := by decide +kernel
theorem dJ7_fill_53178_13 : decode cJ7_fill_53178 13 = .ok (.iastore, 1) := by decide +kernel
theorem dJ7_fill_53178_14 : decode cJ7_fill_53178 14 = .ok (.iinc 2 1, 3) := by decide +kernel
theorem dJ7_fill_53178_17 : decode cJ7_fill_53178 17 = .ok (.goto (-12), 3) := by decide +kernel
theorem dJ7_fill_53178_20 : decode cJ7_fill_53178 20 = .ok (.return_, 1) := by decide +kernel
theorem dX0_init_0 : decode cX0_init 0 = .ok (.aload_n 0, 1) := by decide +kernel
theorem dX0_init_1 : decode cX0_init 1 = .ok (.invokespecial 3, 3) := by decide +kernel
theorem dX0_init_4 : decode cX0_init 4 = .ok (.aload_n 0, 1) := by decide +kernel
theorem dX0_init_5 : decode cX0_init 5 = .ok (.iconst 4, 1) := by decide +kernel
theorem dX0_init_6 : decode cX0_init 6 = .ok (.newarray .int, 2) := by decide +kernel
theorem dX0_init_8 : decode cX0_init 8 = .ok (.putfield 9, 3) := by decide +kernel
theorem dX0_init_11 : decode cX0_init 11 = .ok (.aload_n 0, 1) := by decide +kernel
theorem dX0_init_12 : decode cX0_init 12 = .ok (.iconst 4, 1) := by decide +kernel
theorem dX0_init_13 : decode cX0_init 13 = .ok (.newarray .int, 2) := by decide +kernel
theorem dX0_init_15 : decode cX0_init 15 = .ok (.putfield 15, 3) := by decide +kernel
theorem dX0_init_18 : decode cX0_init 18 = .ok (.aload_n 0, 1) := by decide +kernel
theorem dX0_init_19 : decode cX0_init 19 = .ok (.iconst 4, 1) := by decide +kernel
theorem dX0_init_20 : decode cX0_init 20 = .ok (.newarray .int, 2) := by decide +kernel
theorem dX0_init_22 : decode cX0_init 22 = .ok (.putfield 18, 3) := by decide +kernel
theorem dX0_init_25 : decode cX0_init 25 = .ok (.aload_n 0, 1) := by decide +kernel
theorem dX0_init_26 : decode cX0_init 26 = .ok (.iconst 4, 1) := by decide +kernel
theorem dX0_init_27 : decode cX0_init 27 = .ok (.newarray .int, 2) := by decide +kernel
theorem dX0_init_29 : decode cX0_init 29 = .ok (.putfield 21, 3) := by decide +kernel
theorem dX0_init_32 : decode cX0_init 32 = .ok (.aload_n 0, 1) := by decide +kernel
theorem dX0_init_33 : decode cX0_init 33 = .ok (.iconst 4, 1) := by decide +kernel
theorem dX0_init_34 : decode cX0_init 34 = .ok (.newarray .int, 2) := by decide +kernel
theorem dX0_init_36 : decode cX0_init 36 = .ok (.putfield 24, 3) := by decide +kernel
theorem dX0_init_39 : decode cX0_init 39 = .ok (.aload_n 0, 1) := by decide +kernel
theorem dX0_init_40 : decode cX0_init 40 = .ok (.iconst 4, 1) := by decide +kernel
theorem dX0_init_41 : decode cX0_init 41 = .ok (.newarray .int, 2) := by decide +kernel
theorem dX0_init_43 : decode cX0_init 43 = .ok (.putfield 27, 3) := by decide +kernel
theorem dX0_init_46 : decode cX0_init 46 = .ok (.aload_n 0, 1) := by decide +kernel
theorem dX0_init_47 : decode cX0_init 47 = .ok (.iconst 3, 1) := by decide +kernel
theorem dX0_init_48 : decode cX0_init 48 = .ok (.newarray .int, 2) := by decide +kernel
theorem dX0_init_50 : decode cX0_init 50 = .ok (.putfield 30, 3) := by decide +kernel
theorem dX0_init_53 : decode cX0_init 53 = .ok (.aload_n 0, 1) := by decide +kernel
theorem dX0_init_54 : decode cX0_init 54 = .ok (.bipush (-9), 2) := by decide +kernel
theorem dX0_init_56 : decode cX0_init 56 = .ok (.putfield 33, 3) := by decide +kernel
theorem dX0_init_59 : decode cX0_init 59 = .ok (.aload_n 0, 1) := by decide +kernel
theorem dX0_init_60 : decode cX0_init 60 = .ok (.bipush 8, 2) := by decide +kernel
theorem dX0_init_62 : decode cX0_init 62 = .ok (.newarray .int, 2) := by decide +kernel
theorem dX0_init_64 : decode cX0_init 64 = .ok (.putfield 37, 3) := by decide +kernel
theorem dX0_init_67 : decode cX0_init 67 = .ok (.aload_n 0, 1) := by decide +kernel
theorem dX0_init_68 : decode cX0_init 68 = .ok (.bipush 8, 2) := by decide +kernel
theorem dX0_init_70 : decode cX0_init 70 = .ok (.newarray .int, 2) := by decide +kernel
theorem dX0_init_72 : decode cX0_init 72 = .ok (.putfield 40, 3) := by decide +kernel
theorem dX0_init_75 : decode cX0_init 75 = .ok (.return_, 1) := by decide +kernel
theorem dX0_begin_0 : decode cX0_begin 0 = .ok (.aload_n 0, 1) := by decide +kernel
theorem dX0_begin_1 : decode cX0_begin 1 = .ok (.iconst 0, 1) := by decide +kernel
theorem dX0_begin_2 : decode cX0_begin 2 = .ok (.putfield 43, 3) := by decide +kernel
theorem dX0_begin_5 : decode cX0_begin 5 = .ok (.aload_n 0, 1) := by decide +kernel
theorem dX0_begin_6 : decode cX0_begin 6 = .ok (.iconst 0, 1) := by decide +kernel
theorem dX0_begin_7 : decode cX0_begin 7 = .ok (.putfield 46, 3) := by decide +kernel
theorem dX0_begin_10 : decode cX0_begin 10 = .ok (.aload_n 0, 1) := by decide +kernel
theorem dX0_begin_11 : decode cX0_begin 11 = .ok (.iconst 0, 1) := by decide +kernel
theorem dX0_begin_12 : decode cX0_begin 12 = .ok (.putfield 49, 3) := by decide +kernel
theorem dX0_begin_15 : decode cX0_begin 15 = .ok (.aload_n 0, 1) := by decide +kernel
theorem dX0_begin_16 : decode cX0_begin 16 = .ok (.bipush 7, 2) := by decide +kernel
theorem dX0_begin_18 : decode cX0_begin 18 = .ok (.putfield 52, 3) := by decide +kernel
theorem dX0_begin_21 : decode cX0_begin 21 = .ok (.aload_n 0, 1) := by decide +kernel
theorem dX0_begin_22 : decode cX0_begin 22 = .ok (.iconst 0, 1) := by decide +kernel
theorem dX0_begin_23 : decode cX0_begin 23 = .ok (.putfield 55, 3) := by decide +kernel
theorem dX0_begin_26 : decode cX0_begin 26 = .ok (.aload_n 0, 1) := by decide +kernel
theorem dX0_begin_27 : decode cX0_begin 27 = .ok (.iconst 0, 1) := by decide +kernel
theorem dX0_begin_28 : decode cX0_begin 28 = .ok (.putfield 58, 3) := by decide +kernel
theorem dX0_begin_31 : decode cX0_begin 31 = .ok (.aload_n 0, 1) := by decide +kernel
theorem dX0_begin_32 : decode cX0_begin 32 = .ok (.getfield 30, 3) := by decide +kernel
theorem dX0_begin_35 : decode cX0_begin 35 = .ok (.iconst 0, 1) := by decide +kernel
theorem dX0_begin_36 : decode cX0_begin 36 = .ok (.invokestatic 61, 3) := by decide +kernel
theorem dX0_begin_39 : decode cX0_begin 39 = .ok (.return_, 1) := by decide +kernel
theorem dX0_addPost_0 : decode cX0_addPost 0 = .ok (.aload_n 0, 1) := by decide +kernel
theorem dX0_addPost_1 : decode cX0_addPost 1 = .ok (.getfield 43, 3) := by decide +kernel
theorem dX0_addPost_4 : decode cX0_addPost 4 = .ok (.iconst 4, 1) := by decide +kernel
theorem dX0_addPost_5 : decode cX0_addPost 5 = .ok (.if_icmp .ge 33, 3) := by decide +kernel
theorem dX0_addPost_8 : decode cX0_addPost 8 = .ok (.aload_n 0, 1) := by decide +kernel
theorem dX0_addPost_9 : decode cX0_addPost 9 = .ok (.getfield 9, 3) := by decide +kernel
theorem dX0_addPost_12 : decode cX0_addPost 12 = .ok (.aload_n 0, 1) := by decide +kernel
theorem dX0_addPost_13 : decode cX0_addPost 13 = .ok (.getfield 43, 3) := by decide +kernel
theorem dX0_addPost_16 : decode cX0_addPost 16 = .ok (.iload_n 1, 1) := by decide +kernel
theorem dX0_addPost_17 : decode cX0_addPost 17 = .ok (.iastore, 1) := by decide +kernel
theorem dX0_addPost_18 : decode cX0_addPost 18 = .ok (.aload_n 0, 1) := by decide +kernel
theorem dX0_addPost_19 : decode cX0_addPost 19 = .ok (.getfield 15, 3) := by decide +kernel
theorem dX0_addPost_22 : decode cX0_addPost 22 = .ok (.aload_n 0, 1) := by decide +kernel
theorem dX0_addPost_23 : decode cX0_addPost 23 = .ok (.getfield 43, 3) := by decide +kernel
theorem dX0_addPost_26 : decode cX0_addPost 26 = .ok (.iload_n 2, 1) := by decide +kernel
theorem dX0_addPost_27 : decode cX0_addPost 27 = .ok (.iastore, 1) := by decide +kernel
theorem dX0_addPost_28 : decode cX0_addPost 28 = .ok (.aload_n 0, 1) := by decide +kernel
theorem dX0_addPost_29 : decode cX0_addPost 29 = .ok (.dup, 1) := by decide +kernel
theorem dX0_addPost_30 : decode cX0_addPost 30 = .ok (.getfield 43, 3) := by decide +kernel
theorem dX0_addPost_33 : decode cX0_addPost 33 = .ok (.iconst 1, 1) := by decide +kernel
theorem dX0_addPost_34 : decode cX0_addPost 34 = .ok (.iadd, 1) := by decide +kernel
theorem dX0_addPost_35 : decode cX0_addPost 35 = .ok (.putfield 43, 3) := by decide +kernel
theorem dX0_addPost_38 : decode cX0_addPost 38 = .ok (.return_, 1) := by decide +kernel
theorem dX0_addSilence_0 : decode cX0_addSilence 0 = .ok (.aload_n 0, 1) := by decide +kernel
theorem dX0_addSilence_1 : decode cX0_addSilence 1 = .ok (.getfield 46, 3) := by decide +kernel
theorem dX0_addSilence_4 : decode cX0_addSilence 4 = .ok (.iconst 4, 1) := by decide +kernel
theorem dX0_addSilence_5 : decode cX0_addSilence 5 = .ok (.if_icmp .ge 68, 3) := by decide +kernel
theorem dX0_addSilence_8 : decode cX0_addSilence 8 = .ok (.aload_n 0, 1) := by decide +kernel
theorem dX0_addSilence_9 : decode cX0_addSilence 9 = .ok (.getfield 18, 3) := by decide +kernel
theorem dX0_addSilence_12 : decode cX0_addSilence 12 = .ok (.aload_n 0, 1) := by decide +kernel
theorem dX0_addSilence_13 : decode cX0_addSilence 13 = .ok (.getfield 46, 3) := by decide +kernel
theorem dX0_addSilence_16 : decode cX0_addSilence 16 = .ok (.iload_n 1, 1) := by decide +kernel
theorem dX0_addSilence_17 : decode cX0_addSilence 17 = .ok (.iastore, 1) := by decide +kernel
theorem dX0_addSilence_18 : decode cX0_addSilence 18 = .ok (.aload_n 0, 1) := by decide +kernel
theorem dX0_addSilence_19 : decode cX0_addSilence 19 = .ok (.getfield 21, 3) := by decide +kernel
theorem dX0_addSilence_22 : decode cX0_addSilence 22 = .ok (.aload_n 0, 1) := by decide +kernel
theorem dX0_addSilence_23 : decode cX0_addSilence 23 = .ok (.getfield 46, 3) := by decide +kernel
theorem dX0_addSilence_26 : decode cX0_addSilence 26 = .ok (.iload_n 2, 1) := by decide +kernel
theorem dX0_addSilence_27 : decode cX0_addSilence 27 = .ok (.iastore, 1) := by decide +kernel
theorem dX0_addSilence_28 : decode cX0_addSilence 28 = .ok (.aload_n 0, 1) := by decide +kernel
theorem dX0_addSilence_29 : decode cX0_addSilence 29 = .ok (.getfield 24, 3) := by decide +kernel
theorem dX0_addSilence_32 : decode cX0_addSilence 32 = .ok (.aload_n 0, 1) := by decide +kernel
theorem dX0_addSilence_33 : decode cX0_addSilence 33 = .ok (.getfield 46, 3) := by decide +kernel
theorem dX0_addSilence_36 : decode cX0_addSilence 36 = .ok (.iload_n 3, 1) := by decide +kernel
theorem dX0_addSilence_37 : decode cX0_addSilence 37 = .ok (.iastore, 1) := by decide +kernel
theorem dX0_addSilence_38 : decode cX0_addSilence 38 = .ok (.aload_n 0, 1) := by decide +kernel
theorem dX0_addSilence_39 : decode cX0_addSilence 39 = .ok (.getfield 27, 3) := by decide +kernel
theorem dX0_addSilence_42 : decode cX0_addSilence 42 = .ok (.aload_n 0, 1) := by decide +kernel
theorem dX0_addSilence_43 : decode cX0_addSilence 43 = .ok (.getfield 46, 3) := by decide +kernel
theorem dX0_addSilence_46 : decode cX0_addSilence 46 = .ok (.iconst 0, 1) := by decide +kernel
theorem dX0_addSilence_47 : decode cX0_addSilence 47 = .ok (.iastore, 1) := by decide +kernel
theorem dX0_addSilence_48 : decode cX0_addSilence 48 = .ok (.aload_n 0, 1) := by decide +kernel
theorem dX0_addSilence_49 : decode cX0_addSilence 49 = .ok (.dup, 1) := by decide +kernel
theorem dX0_addSilence_50 : decode cX0_addSilence 50 = .ok (.getfield 49, 3) := by decide +kernel
theorem dX0_addSilence_53 : decode cX0_addSilence 53 = .ok (.iconst 1, 1) := by decide +kernel
theorem dX0_addSilence_54 : decode cX0_addSilence 54 = .ok (.aload_n 0, 1) := by decide +kernel
theorem dX0_addSilence_55 : decode cX0_addSilence 55 = .ok (.getfield 46, 3) := by decide +kernel
theorem dX0_addSilence_58 : decode cX0_addSilence 58 = .ok (.ishl, 1) := by decide +kernel
theorem dX0_addSilence_59 : decode cX0_addSilence 59 = .ok (.ior, 1) := by decide +kernel
theorem dX0_addSilence_60 : decode cX0_addSilence 60 = .ok (.putfield 49, 3) := by decide +kernel
theorem dX0_addSilence_63 : decode cX0_addSilence 63 = .ok (.aload_n 0, 1) := by decide +kernel
theorem dX0_addSilence_64 : decode cX0_addSilence 64 = .ok (.dup, 1) := by decide +kernel
theorem dX0_addSilence_65 : decode cX0_addSilence 65 = .ok (.getfield 46, 3) := by decide +kernel
theorem dX0_addSilence_68 : decode cX0_addSilence 68 = .ok (.iconst 1, 1) := by decide +kernel
theorem dX0_addSilence_69 : decode cX0_addSilence 69 = .ok (.iadd, 1) := by decide +kernel
theorem dX0_addSilence_70 : decode cX0_addSilence 70 = .ok (.putfield 46, 3) := by decide +kernel
theorem dX0_addSilence_73 : decode cX0_addSilence 73 = .ok (.return_, 1) := by decide +kernel
theorem dX0_isMissing_0 : decode cX0_isMissing 0 = .ok (.aload_n 0, 1) := by decide +kernel
theorem dX0_isMissing_1 : decode cX0_isMissing 1 = .ok (.getfield 43, 3) := by decide +kernel
theorem dX0_isMissing_4 : decode cX0_isMissing 4 = .ok (.ifCond .ne 7, 3) := by decide +kernel
theorem dX0_isMissing_7 : decode cX0_isMissing 7 = .ok (.iconst 1, 1) := by decide +kernel
theorem dX0_isMissing_8 : decode cX0_isMissing 8 = .ok (.goto 4, 3) := by decide +kernel
theorem dX0_isMissing_11 : decode cX0_isMissing 11 = .ok (.iconst 0, 1) := by decide +kernel
theorem dX0_isMissing_12 : decode cX0_isMissing 12 = .ok (.ireturn, 1) := by decide +kernel
theorem dX0_hasPost_0 : decode cX0_hasPost 0 = .ok (.iload_n 1, 1) := by decide +kernel
theorem dX0_hasPost_1 : decode cX0_hasPost 1 = .ok (.ifCond .lt 15, 3) := by decide +kernel
theorem dX0_hasPost_4 : decode cX0_hasPost 4 = .ok (.iload_n 1, 1) := by decide +kernel
theorem dX0_hasPost_5 : decode cX0_hasPost 5 = .ok (.aload_n 0, 1) := by decide +kernel
theorem dX0_hasPost_6 : decode cX0_hasPost 6 = .ok (.getfield 43, 3) := by decide +kernel
theorem dX0_hasPost_9 : decode cX0_hasPost 9 = .ok (.if_icmp .ge 7, 3) := by decide +kernel
theorem dX0_hasPost_12 : decode cX0_hasPost 12 = .ok (.iconst 1, 1) := by decide +kernel
theorem dX0_hasPost_13 : decode cX0_hasPost 13 = .ok (.goto 4, 3) := by decide +kernel
theorem dX0_hasPost_16 : decode cX0_hasPost 16 = .ok (.iconst 0, 1) := by decide +kernel
theorem dX0_hasPost_17 : decode cX0_hasPost 17 = .ok (.ireturn, 1) := by decide +kernel
theorem dX0_hasSilence_0 : decode cX0_hasSilence 0 = .ok (.iload_n 1, 1) := by decide +kernel
theorem dX0_hasSilence_1 : decode cX0_hasSilence 1 = .ok (.ifCond .lt 15, 3) := by decide +kernel
theorem dX0_hasSilence_4 : decode cX0_hasSilence 4 = .ok (.iload_n 1, 1) := by decide +kernel
theorem dX0_hasSilence_5 : decode cX0_hasSilence 5 = .ok (.aload_n 0, 1) := by decide +kernel
theorem dX0_hasSilence_6 : decode cX0_hasSilence 6 = .ok (.getfield 46, 3) := by decide +kernel
theorem dX0_hasSilence_9 : decode cX0_hasSilence 9 = .ok (.if_icmp .ge 7, 3) := by decide +kernel
theorem dX0_hasSilence_12 : decode cX0_hasSilence 12 = .ok (.iconst 1, 1) := by decide +kernel
theorem dX0_hasSilence_13 : decode cX0_hasSilence 13 = .ok (.goto 4, 3) := by decide +kernel
theorem dX0_hasSilence_16 : decode cX0_hasSilence 16 = .ok (.iconst 0, 1) := by decide +kernel
theorem dX0_hasSilence_17 : decode cX0_hasSilence 17 = .ok (.ireturn, 1) := by decide +kernel
theorem dX0_allSilences_0 : decode cX0_allSilences 0 = .ok (.iconst 1, 1) := by decide +kernel
theorem dX0_allSilences_1 : decode cX0_allSilences 1 = .ok (.aload_n 0, 1) := by decide +kernel
theorem dX0_allSilences_2 : decode cX0_allSilences 2 = .ok (.getfield 46, 3) := by decide +kernel
theorem dX0_allSilences_5 : decode cX0_allSilences 5 = .ok (.ishl, 1) := by decide +kernel
theorem dX0_allSilences_6 : decode cX0_allSilences 6 = .ok (.iconst 1, 1) := by decide +kernel
theorem dX0_allSilences_7 : decode cX0_allSilences 7 = .ok (.isub, 1) := by decide +kernel
theorem dX0_allSilences_8 : decode cX0_allSilences 8 = .ok (.ireturn, 1) := by decide +kernel
theorem dX0_isDeclared_0 : decode cX0_isDeclared 0 = .ok (.aload_n 0, 1) := by decide +kernel
theorem dX0_isDeclared_1 : decode cX0_isDeclared 1 = .ok (.getfield 49, 3) := by decide +kernel
theorem dX0_isDeclared_4 : decode cX0_isDeclared 4 = .ok (.iload_n 1, 1) := by decide +kernel
theorem dX0_isDeclared_5 : decode cX0_isDeclared 5 = .ok (.ishr, 1) := by decide +kernel
theorem dX0_isDeclared_6 : decode cX0_isDeclared 6 = .ok (.iconst 1, 1) := by decide +kernel
theorem dX0_isDeclared_7 : decode cX0_isDeclared 7 = .ok (.iand, 1) := by decide +kernel
theorem dX0_isDeclared_8 : decode cX0_isDeclared 8 = .ok (.ifCond .eq 7, 3) := by decide +kernel
theorem dX0_isDeclared_11 : decode cX0_isDeclared 11 = .ok (.iconst 1, 1) := by decide +kernel
theorem dX0_isDeclared_12 : decode cX0_isDeclared 12 = .ok (.goto 4, 3) := by decide +kernel
theorem dX0_isDeclared_15 : decode cX0_isDeclared 15 = .ok (.iconst 0, 1) := by decide +kernel
theorem dX0_isDeclared_16 : decode cX0_isDeclared 16 = .ok (.ireturn, 1) := by decide +kernel
theorem dX0_isDutiable_0 : decode cX0_isDutiable 0 = .ok (.aload_n 0, 1) := by decide +kernel
theorem dX0_isDutiable_1 : decode cX0_isDutiable 1 = .ok (.getfield 52, 3) := by decide +kernel
theorem dX0_isDutiable_4 : decode cX0_isDutiable 4 = .ok (.aload_n 0, 1) := by decide +kernel
theorem dX0_isDutiable_5 : decode cX0_isDutiable 5 = .ok (.getfield 18, 3) := by decide +kernel
theorem dX0_isDutiable_8 : decode cX0_isDutiable 8 = .ok (.iload_n 1, 1) := by decide +kernel
theorem dX0_isDutiable_9 : decode cX0_isDutiable 9 = .ok (.iaload, 1) := by decide +kernel
theorem dX0_isDutiable_10 : decode cX0_isDutiable 10 = .ok (.ishr, 1) := by decide +kernel
theorem dX0_isDutiable_11 : decode cX0_isDutiable 11 = .ok (.iconst 1, 1) := by decide +kernel
theorem dX0_isDutiable_12 : decode cX0_isDutiable 12 = .ok (.iand, 1) := by decide +kernel
theorem dX0_isDutiable_13 : decode cX0_isDutiable 13 = .ok (.ifCond .eq 7, 3) := by decide +kernel
theorem dX0_isDutiable_16 : decode cX0_isDutiable 16 = .ok (.iconst 1, 1) := by decide +kernel
theorem dX0_isDutiable_17 : decode cX0_isDutiable 17 = .ok (.goto 4, 3) := by decide +kernel
theorem dX0_isDutiable_20 : decode cX0_isDutiable 20 = .ok (.iconst 0, 1) := by decide +kernel
theorem dX0_isDutiable_21 : decode cX0_isDutiable 21 = .ok (.ireturn, 1) := by decide +kernel
theorem dX0_gradeOf_0 : decode cX0_gradeOf 0 = .ok (.aload_n 0, 1) := by decide +kernel
theorem dX0_gradeOf_1 : decode cX0_gradeOf 1 = .ok (.getfield 18, 3) := by decide +kernel
theorem dX0_gradeOf_4 : decode cX0_gradeOf 4 = .ok (.iload_n 1, 1) := by decide +kernel
theorem dX0_gradeOf_5 : decode cX0_gradeOf 5 = .ok (.iaload, 1) := by decide +kernel
theorem dX0_gradeOf_6 : decode cX0_gradeOf 6 = .ok (.lookupswitch 46 #[(1, 37), (2, 26)], 26) := by decide +kernel
theorem dX0_gradeOf_32 : decode cX0_gradeOf 32 = .ok (.iconst 2, 1) := by decide +kernel
theorem dX0_gradeOf_33 : decode cX0_gradeOf 33 = .ok (.aload_n 0, 1) := by decide +kernel
theorem dX0_gradeOf_34 : decode cX0_gradeOf 34 = .ok (.getfield 24, 3) := by decide +kernel
theorem dX0_gradeOf_37 : decode cX0_gradeOf 37 = .ok (.iload_n 1, 1) := by decide +kernel
theorem dX0_gradeOf_38 : decode cX0_gradeOf 38 = .ok (.iaload, 1) := by decide +kernel
theorem dX0_gradeOf_39 : decode cX0_gradeOf 39 = .ok (.iconst 1, 1) := by decide +kernel
theorem dX0_gradeOf_40 : decode cX0_gradeOf 40 = .ok (.iadd, 1) := by decide +kernel
theorem dX0_gradeOf_41 : decode cX0_gradeOf 41 = .ok (.imul, 1) := by decide +kernel
theorem dX0_gradeOf_42 : decode cX0_gradeOf 42 = .ok (.ireturn, 1) := by decide +kernel
theorem dX0_gradeOf_43 : decode cX0_gradeOf 43 = .ok (.aload_n 0, 1) := by decide +kernel
theorem dX0_gradeOf_44 : decode cX0_gradeOf 44 = .ok (.getfield 24, 3) := by decide +kernel
theorem dX0_gradeOf_47 : decode cX0_gradeOf 47 = .ok (.iload_n 1, 1) := by decide +kernel
theorem dX0_gradeOf_48 : decode cX0_gradeOf 48 = .ok (.iaload, 1) := by decide +kernel
theorem dX0_gradeOf_49 : decode cX0_gradeOf 49 = .ok (.iconst 1, 1) := by decide +kernel
theorem dX0_gradeOf_50 : decode cX0_gradeOf 50 = .ok (.iadd, 1) := by decide +kernel
theorem dX0_gradeOf_51 : decode cX0_gradeOf 51 = .ok (.ireturn, 1) := by decide +kernel
theorem dX0_gradeOf_52 : decode cX0_gradeOf 52 = .ok (.aload_n 0, 1) := by decide +kernel
theorem dX0_gradeOf_53 : decode cX0_gradeOf 53 = .ok (.getfield 24, 3) := by decide +kernel
theorem dX0_gradeOf_56 : decode cX0_gradeOf 56 = .ok (.iload_n 1, 1) := by decide +kernel
theorem dX0_gradeOf_57 : decode cX0_gradeOf 57 = .ok (.iaload, 1) := by decide +kernel
theorem dX0_gradeOf_58 : decode cX0_gradeOf 58 = .ok (.ireturn, 1) := by decide +kernel
theorem dX0_weightOf_0 : decode cX0_weightOf 0 = .ok (.aload_n 0, 1) := by decide +kernel
theorem dX0_weightOf_1 : decode cX0_weightOf 1 = .ok (.getfield 21, 3) := by decide +kernel
theorem dX0_weightOf_4 : decode cX0_weightOf 4 = .ok (.iload_n 1, 1) := by decide +kernel
theorem dX0_weightOf_5 : decode cX0_weightOf 5 = .ok (.iaload, 1) := by decide +kernel
theorem dX0_weightOf_6 : decode cX0_weightOf 6 = .ok (.aload_n 0, 1) := by decide +kernel
theorem dX0_weightOf_7 : decode cX0_weightOf 7 = .ok (.iload_n 1, 1) := by decide +kernel
theorem dX0_weightOf_8 : decode cX0_weightOf 8 = .ok (.invokevirtual 67, 3) := by decide +kernel
theorem dX0_weightOf_11 : decode cX0_weightOf 11 = .ok (.imul, 1) := by decide +kernel
theorem dX0_weightOf_12 : decode cX0_weightOf 12 = .ok (.ireturn, 1) := by decide +kernel
theorem dX0_dutyAt_0 : decode cX0_dutyAt 0 = .ok (.aload_n 0, 1) := by decide +kernel
theorem dX0_dutyAt_1 : decode cX0_dutyAt 1 = .ok (.aload_n 0, 1) := by decide +kernel
theorem dX0_dutyAt_2 : decode cX0_dutyAt 2 = .ok (.getfield 9, 3) := by decide +kernel
theorem dX0_dutyAt_5 : decode cX0_dutyAt 5 = .ok (.iload_n 1, 1) := by decide +kernel
theorem dX0_dutyAt_6 : decode cX0_dutyAt 6 = .ok (.iaload, 1) := by decide +kernel
theorem dX0_dutyAt_7 : decode cX0_dutyAt 7 = .ok (.invokevirtual 71, 3) := by decide +kernel
theorem dX0_dutyAt_10 : decode cX0_dutyAt 10 = .ok (.ireturn, 1) := by decide +kernel
theorem dX0_dutyAtAll_0 : decode cX0_dutyAtAll 0 = .ok (.iconst 0, 1) := by decide +kernel
theorem dX0_dutyAtAll_1 : decode cX0_dutyAtAll 1 = .ok (.istore_n 1, 1) := by decide +kernel
theorem dX0_dutyAtAll_2 : decode cX0_dutyAtAll 2 = .ok (.iconst 0, 1) := by decide +kernel
theorem dX0_dutyAtAll_3 : decode cX0_dutyAtAll 3 = .ok (.istore_n 2, 1) := by decide +kernel
theorem dX0_dutyAtAll_4 : decode cX0_dutyAtAll 4 = .ok (.iload_n 2, 1) := by decide +kernel
theorem dX0_dutyAtAll_5 : decode cX0_dutyAtAll 5 = .ok (.aload_n 0, 1) := by decide +kernel
theorem dX0_dutyAtAll_6 : decode cX0_dutyAtAll 6 = .ok (.getfield 43, 3) := by decide +kernel
theorem dX0_dutyAtAll_9 : decode cX0_dutyAtAll 9 = .ok (.if_icmp .ge 18, 3) := by decide +kernel
theorem dX0_dutyAtAll_12 : decode cX0_dutyAtAll 12 = .ok (.iload_n 1, 1) := by decide +kernel
theorem dX0_dutyAtAll_13 : decode cX0_dutyAtAll 13 = .ok (.aload_n 0, 1) := by decide +kernel
theorem dX0_dutyAtAll_14 : decode cX0_dutyAtAll 14 = .ok (.getfield 9, 3) := by decide +kernel
theorem dX0_dutyAtAll_17 : decode cX0_dutyAtAll 17 = .ok (.iload_n 2, 1) := by decide +kernel
theorem dX0_dutyAtAll_18 : decode cX0_dutyAtAll 18 = .ok (.iaload, 1) := by decide +kernel
theorem dX0_dutyAtAll_19 : decode cX0_dutyAtAll 19 = .ok (.iadd, 1) := by decide +kernel
theorem dX0_dutyAtAll_20 : decode cX0_dutyAtAll 20 = .ok (.istore_n 1, 1) := by decide +kernel
theorem dX0_dutyAtAll_21 : decode cX0_dutyAtAll 21 = .ok (.iinc 2 1, 3) := by decide +kernel
theorem dX0_dutyAtAll_24 : decode cX0_dutyAtAll 24 = .ok (.goto (-20), 3) := by decide +kernel
theorem dX0_dutyAtAll_27 : decode cX0_dutyAtAll 27 = .ok (.aload_n 0, 1) := by decide +kernel
theorem dX0_dutyAtAll_28 : decode cX0_dutyAtAll 28 = .ok (.iload_n 1, 1) := by decide +kernel
theorem dX0_dutyAtAll_29 : decode cX0_dutyAtAll 29 = .ok (.invokevirtual 71, 3) := by decide +kernel
theorem dX0_dutyAtAll_32 : decode cX0_dutyAtAll 32 = .ok (.ireturn, 1) := by decide +kernel
theorem dX0_dutyByRate_0 : decode cX0_dutyByRate 0 = .ok (.iconst 0, 1) := by decide +kernel
theorem dX0_dutyByRate_1 : decode cX0_dutyByRate 1 = .ok (.istore_n 2, 1) := by decide +kernel
theorem dX0_dutyByRate_2 : decode cX0_dutyByRate 2 = .ok (.iconst 0, 1) := by decide +kernel
theorem dX0_dutyByRate_3 : decode cX0_dutyByRate 3 = .ok (.istore_n 3, 1) := by decide +kernel
theorem dX0_dutyByRate_4 : decode cX0_dutyByRate 4 = .ok (.iload_n 3, 1) := by decide +kernel
theorem dX0_dutyByRate_5 : decode cX0_dutyByRate 5 = .ok (.iconst 3, 1) := by decide +kernel
theorem dX0_dutyByRate_6 : decode cX0_dutyByRate 6 = .ok (.if_icmp .ge 17, 3) := by decide +kernel
theorem dX0_dutyByRate_9 : decode cX0_dutyByRate 9 = .ok (.iload_n 2, 1) := by decide +kernel
theorem dX0_dutyByRate_10 : decode cX0_dutyByRate 10 = .ok (.aload_n 0, 1) := by decide +kernel
theorem dX0_dutyByRate_11 : decode cX0_dutyByRate 11 = .ok (.iload_n 3, 1) := by decide +kernel
theorem dX0_dutyByRate_12 : decode cX0_dutyByRate 12 = .ok (.invokevirtual 74, 3) := by decide +kernel
theorem dX0_dutyByRate_15 : decode cX0_dutyByRate 15 = .ok (.iadd, 1) := by decide +kernel
theorem dX0_dutyByRate_16 : decode cX0_dutyByRate 16 = .ok (.istore_n 2, 1) := by decide +kernel
theorem dX0_dutyByRate_17 : decode cX0_dutyByRate 17 = .ok (.iinc 3 1, 3) := by decide +kernel
theorem dX0_dutyByRate_20 : decode cX0_dutyByRate 20 = .ok (.goto (-16), 3) := by decide +kernel
theorem dX0_dutyByRate_23 : decode cX0_dutyByRate 23 = .ok (.iload_n 2, 1) := by decide +kernel
theorem dX0_dutyByRate_24 : decode cX0_dutyByRate 24 = .ok (.iload_n 1, 1) := by decide +kernel
theorem dX0_dutyByRate_25 : decode cX0_dutyByRate 25 = .ok (.imul, 1) := by decide +kernel
theorem dX0_dutyByRate_26 : decode cX0_dutyByRate 26 = .ok (.ireturn, 1) := by decide +kernel
theorem dX0_minutesByGrade_0 : decode cX0_minutesByGrade 0 = .ok (.iconst 0, 1) := by decide +kernel
theorem dX0_minutesByGrade_1 : decode cX0_minutesByGrade 1 = .ok (.istore_n 2, 1) := by decide +kernel
theorem dX0_minutesByGrade_2 : decode cX0_minutesByGrade 2 = .ok (.iconst 0, 1) := by decide +kernel
theorem dX0_minutesByGrade_3 : decode cX0_minutesByGrade 3 = .ok (.istore_n 3, 1) := by decide +kernel
theorem dX0_minutesByGrade_4 : decode cX0_minutesByGrade 4 = .ok (.iconst 0, 1) := by decide +kernel
theorem dX0_minutesByGrade_5 : decode cX0_minutesByGrade 5 = .ok (.istore 4, 2) := by decide +kernel
theorem dX0_minutesByGrade_7 : decode cX0_minutesByGrade 7 = .ok (.iload 4, 2) := by decide +kernel
theorem dX0_minutesByGrade_9 : decode cX0_minutesByGrade 9 = .ok (.aload_n 0, 1) := by decide +kernel
theorem dX0_minutesByGrade_10 : decode cX0_minutesByGrade 10 = .ok (.getfield 46, 3) := by decide +kernel
theorem dX0_minutesByGrade_13 : decode cX0_minutesByGrade 13 = .ok (.if_icmp .ge 68, 3) := by decide +kernel
theorem dX0_minutesByGrade_16 : decode cX0_minutesByGrade 16 = .ok (.aload_n 0, 1) := by decide +kernel
theorem dX0_minutesByGrade_17 : decode cX0_minutesByGrade 17 = .ok (.getfield 27, 3) := by decide +kernel
theorem dX0_minutesByGrade_20 : decode cX0_minutesByGrade 20 = .ok (.iload 4, 2) := by decide +kernel
theorem dX0_minutesByGrade_22 : decode cX0_minutesByGrade 22 = .ok (.iaload, 1) := by decide +kernel
theorem dX0_minutesByGrade_23 : decode cX0_minutesByGrade 23 = .ok (.iload_n 1, 1) := by decide +kernel
theorem dX0_minutesByGrade_24 : decode cX0_minutesByGrade 24 = .ok (.if_icmp .ne 51, 3) := by decide +kernel
theorem dX0_minutesByGrade_27 : decode cX0_minutesByGrade 27 = .ok (.iload 4, 2) := by decide +kernel
theorem dX0_minutesByGrade_29 : decode cX0_minutesByGrade 29 = .ok (.aload_n 0, 1) := by decide +kernel
theorem dX0_minutesByGrade_30 : decode cX0_minutesByGrade 30 = .ok (.getfield 33, 3) := by decide +kernel
theorem dX0_minutesByGrade_33 : decode cX0_minutesByGrade 33 = .ok (.if_icmp .eq 42, 3) := by decide +kernel
theorem dX0_minutesByGrade_36 : decode cX0_minutesByGrade 36 = .ok (.aload_n 0, 1) := by decide +kernel
theorem dX0_minutesByGrade_37 : decode cX0_minutesByGrade 37 = .ok (.iload 4, 2) := by decide +kernel
theorem dX0_minutesByGrade_39 : decode cX0_minutesByGrade 39 = .ok (.invokevirtual 77, 3) := by decide +kernel
theorem dX0_minutesByGrade_42 : decode cX0_minutesByGrade 42 = .ok (.ifCond .eq 33, 3) := by decide +kernel
theorem dX0_minutesByGrade_45 : decode cX0_minutesByGrade 45 = .ok (.aload_n 0, 1) := by decide +kernel
theorem dX0_minutesByGrade_46 : decode cX0_minutesByGrade 46 = .ok (.iload 4, 2) := by decide +kernel
theorem dX0_minutesByGrade_48 : decode cX0_minutesByGrade 48 = .ok (.invokevirtual 81, 3) := by decide +kernel
theorem dX0_minutesByGrade_51 : decode cX0_minutesByGrade 51 = .ok (.ifCond .eq 24, 3) := by decide +kernel
theorem dX0_minutesByGrade_54 : decode cX0_minutesByGrade 54 = .ok (.iload_n 2, 1) := by decide +kernel
theorem dX0_minutesByGrade_55 : decode cX0_minutesByGrade 55 = .ok (.aload_n 0, 1) := by decide +kernel
theorem dX0_minutesByGrade_56 : decode cX0_minutesByGrade 56 = .ok (.getfield 21, 3) := by decide +kernel
theorem dX0_minutesByGrade_59 : decode cX0_minutesByGrade 59 = .ok (.iload 4, 2) := by decide +kernel
theorem dX0_minutesByGrade_61 : decode cX0_minutesByGrade 61 = .ok (.iaload, 1) := by decide +kernel
theorem dX0_minutesByGrade_62 : decode cX0_minutesByGrade 62 = .ok (.iadd, 1) := by decide +kernel
theorem dX0_minutesByGrade_63 : decode cX0_minutesByGrade 63 = .ok (.istore_n 2, 1) := by decide +kernel
theorem dX0_minutesByGrade_64 : decode cX0_minutesByGrade 64 = .ok (.iload_n 3, 1) := by decide +kernel
theorem dX0_minutesByGrade_65 : decode cX0_minutesByGrade 65 = .ok (.aload_n 0, 1) := by decide +kernel
theorem dX0_minutesByGrade_66 : decode cX0_minutesByGrade 66 = .ok (.iload 4, 2) := by decide +kernel
theorem dX0_minutesByGrade_68 : decode cX0_minutesByGrade 68 = .ok (.invokevirtual 67, 3) := by decide +kernel
theorem dX0_minutesByGrade_71 : decode cX0_minutesByGrade 71 = .ok (.invokestatic 84, 3) := by decide +kernel
theorem dX0_minutesByGrade_74 : decode cX0_minutesByGrade 74 = .ok (.istore_n 3, 1) := by decide +kernel
theorem dX0_minutesByGrade_75 : decode cX0_minutesByGrade 75 = .ok (.iinc 4 1, 3) := by decide +kernel
theorem dX0_minutesByGrade_78 : decode cX0_minutesByGrade 78 = .ok (.goto (-71), 3) := by decide +kernel
theorem dX0_minutesByGrade_81 : decode cX0_minutesByGrade 81 = .ok (.iconst 0, 1) := by decide +kernel
theorem dX0_minutesByGrade_82 : decode cX0_minutesByGrade 82 = .ok (.iload_n 2, 1) := by decide +kernel
theorem dX0_minutesByGrade_83 : decode cX0_minutesByGrade 83 = .ok (.aload_n 0, 1) := by decide +kernel
theorem dX0_minutesByGrade_84 : decode cX0_minutesByGrade 84 = .ok (.getfield 55, 3) := by decide +kernel
theorem dX0_minutesByGrade_87 : decode cX0_minutesByGrade 87 = .ok (.isub, 1) := by decide +kernel
theorem dX0_minutesByGrade_88 : decode cX0_minutesByGrade 88 = .ok (.invokestatic 84, 3) := by decide +kernel
theorem dX0_minutesByGrade_91 : decode cX0_minutesByGrade 91 = .ok (.iload_n 3, 1) := by decide +kernel
theorem dX0_minutesByGrade_92 : decode cX0_minutesByGrade 92 = .ok (.imul, 1) := by decide +kernel
theorem dX0_minutesByGrade_93 : decode cX0_minutesByGrade 93 = .ok (.ireturn, 1) := by decide +kernel
theorem dX0_tenthsHeard_0 : decode cX0_tenthsHeard 0 = .ok (.iload_n 1, 1) := by decide +kernel
theorem dX0_tenthsHeard_1 : decode cX0_tenthsHeard 1 = .ok (.aload_n 0, 1) := by decide +kernel
theorem dX0_tenthsHeard_2 : decode cX0_tenthsHeard 2 = .ok (.getfield 33, 3) := by decide +kernel
theorem dX0_tenthsHeard_5 : decode cX0_tenthsHeard 5 = .ok (.if_icmp .eq 19, 3) := by decide +kernel
theorem dX0_tenthsHeard_8 : decode cX0_tenthsHeard 8 = .ok (.aload_n 0, 1) := by decide +kernel
theorem dX0_tenthsHeard_9 : decode cX0_tenthsHeard 9 = .ok (.iload_n 1, 1) := by decide +kernel
theorem dX0_tenthsHeard_10 : decode cX0_tenthsHeard 10 = .ok (.invokevirtual 77, 3) := by decide +kernel
theorem dX0_tenthsHeard_13 : decode cX0_tenthsHeard 13 = .ok (.ifCond .ne 11, 3) := by decide +kernel
theorem dX0_tenthsHeard_16 : decode cX0_tenthsHeard 16 = .ok (.aload_n 0, 1) := by decide +kernel
theorem dX0_tenthsHeard_17 : decode cX0_tenthsHeard 17 = .ok (.iload_n 1, 1) := by decide +kernel
theorem dX0_tenthsHeard_18 : decode cX0_tenthsHeard 18 = .ok (.invokevirtual 81, 3) := by decide +kernel
theorem dX0_tenthsHeard_21 : decode cX0_tenthsHeard 21 = .ok (.ifCond .ne 5, 3) := by decide +kernel
theorem dX0_tenthsHeard_24 : decode cX0_tenthsHeard 24 = .ok (.iconst 0, 1) := by decide +kernel
theorem dX0_tenthsHeard_25 : decode cX0_tenthsHeard 25 = .ok (.ireturn, 1) := by decide +kernel
theorem dX0_tenthsHeard_26 : decode cX0_tenthsHeard 26 = .ok (.iconst 0, 1) := by decide +kernel
theorem dX0_tenthsHeard_27 : decode cX0_tenthsHeard 27 = .ok (.aload_n 0, 1) := by decide +kernel
theorem dX0_tenthsHeard_28 : decode cX0_tenthsHeard 28 = .ok (.getfield 15, 3) := by decide +kernel
theorem dX0_tenthsHeard_31 : decode cX0_tenthsHeard 31 = .ok (.iload_n 2, 1) := by decide +kernel
theorem dX0_tenthsHeard_32 : decode cX0_tenthsHeard 32 = .ok (.iaload, 1) := by decide +kernel
theorem dX0_tenthsHeard_33 : decode cX0_tenthsHeard 33 = .ok (.aload_n 0, 1) := by decide +kernel
theorem dX0_tenthsHeard_34 : decode cX0_tenthsHeard 34 = .ok (.getfield 30, 3) := by decide +kernel
theorem dX0_tenthsHeard_37 : decode cX0_tenthsHeard 37 = .ok (.aload_n 0, 1) := by decide +kernel
theorem dX0_tenthsHeard_38 : decode cX0_tenthsHeard 38 = .ok (.getfield 27, 3) := by decide +kernel
theorem dX0_tenthsHeard_41 : decode cX0_tenthsHeard 41 = .ok (.iload_n 1, 1) := by decide +kernel
theorem dX0_tenthsHeard_42 : decode cX0_tenthsHeard 42 = .ok (.iaload, 1) := by decide +kernel
theorem dX0_tenthsHeard_43 : decode cX0_tenthsHeard 43 = .ok (.iaload, 1) := by decide +kernel
theorem dX0_tenthsHeard_44 : decode cX0_tenthsHeard 44 = .ok (.isub, 1) := by decide +kernel
theorem dX0_tenthsHeard_45 : decode cX0_tenthsHeard 45 = .ok (.invokestatic 84, 3) := by decide +kernel
theorem dX0_tenthsHeard_48 : decode cX0_tenthsHeard 48 = .ok (.ireturn, 1) := by decide +kernel
theorem dX0_readingsAreSo_0 : decode cX0_readingsAreSo 0 = .ok (.iconst 0, 1) := by decide +kernel
theorem dX0_readingsAreSo_1 : decode cX0_readingsAreSo 1 = .ok (.istore_n 1, 1) := by decide +kernel
theorem dX0_readingsAreSo_2 : decode cX0_readingsAreSo 2 = .ok (.iload_n 1, 1) := by decide +kernel
theorem dX0_readingsAreSo_3 : decode cX0_readingsAreSo 3 = .ok (.aload_n 0, 1) := by decide +kernel
theorem dX0_readingsAreSo_4 : decode cX0_readingsAreSo 4 = .ok (.getfield 58, 3) := by decide +kernel
theorem dX0_readingsAreSo_7 : decode cX0_readingsAreSo 7 = .ok (.if_icmp .ge 30, 3) := by decide +kernel
theorem dX0_readingsAreSo_10 : decode cX0_readingsAreSo 10 = .ok (.aload_n 0, 1) := by decide +kernel
theorem dX0_readingsAreSo_11 : decode cX0_readingsAreSo 11 = .ok (.aload_n 0, 1) := by decide +kernel
theorem dX0_readingsAreSo_12 : decode cX0_readingsAreSo 12 = .ok (.getfield 37, 3) := by decide +kernel
theorem dX0_readingsAreSo_15 : decode cX0_readingsAreSo 15 = .ok (.iload_n 1, 1) := by decide +kernel
theorem dX0_readingsAreSo_16 : decode cX0_readingsAreSo 16 = .ok (.iaload, 1) := by decide +kernel
theorem dX0_readingsAreSo_17 : decode cX0_readingsAreSo 17 = .ok (.invokevirtual 90, 3) := by decide +kernel
theorem dX0_readingsAreSo_20 : decode cX0_readingsAreSo 20 = .ok (.aload_n 0, 1) := by decide +kernel
theorem dX0_readingsAreSo_21 : decode cX0_readingsAreSo 21 = .ok (.getfield 40, 3) := by decide +kernel
theorem dX0_readingsAreSo_24 : decode cX0_readingsAreSo 24 = .ok (.iload_n 1, 1) := by decide +kernel
theorem dX0_readingsAreSo_25 : decode cX0_readingsAreSo 25 = .ok (.iaload, 1) := by decide +kernel
theorem dX0_readingsAreSo_26 : decode cX0_readingsAreSo 26 = .ok (.if_icmp .eq 5, 3) := by decide +kernel
theorem dX0_readingsAreSo_29 : decode cX0_readingsAreSo 29 = .ok (.iconst 0, 1) := by decide +kernel
theorem dX0_readingsAreSo_30 : decode cX0_readingsAreSo 30 = .ok (.ireturn, 1) := by decide +kernel
theorem dX0_readingsAreSo_31 : decode cX0_readingsAreSo 31 = .ok (.iinc 1 1, 3) := by decide +kernel
theorem dX0_readingsAreSo_34 : decode cX0_readingsAreSo 34 = .ok (.goto (-32), 3) := by decide +kernel
theorem dX0_readingsAreSo_37 : decode cX0_readingsAreSo 37 = .ok (.iconst 1, 1) := by decide +kernel
theorem dX0_readingsAreSo_38 : decode cX0_readingsAreSo 38 = .ok (.ireturn, 1) := by decide +kernel
theorem dX0_carrierRows_0 : decode cX0_carrierRows 0 = .ok (.iconst 1, 1) := by decide +kernel
theorem dX0_carrierRows_1 : decode cX0_carrierRows 1 = .ok (.istore_n 1, 1) := by decide +kernel
theorem dX0_carrierRows_2 : decode cX0_carrierRows 2 = .ok (.iconst 0, 1) := by decide +kernel
theorem dX0_carrierRows_3 : decode cX0_carrierRows 3 = .ok (.istore_n 2, 1) := by decide +kernel
theorem dX0_carrierRows_4 : decode cX0_carrierRows 4 = .ok (.iload_n 2, 1) := by decide +kernel
theorem dX0_carrierRows_5 : decode cX0_carrierRows 5 = .ok (.aload_n 0, 1) := by decide +kernel
theorem dX0_carrierRows_6 : decode cX0_carrierRows 6 = .ok (.getfield 46, 3) := by decide +kernel
theorem dX0_carrierRows_9 : decode cX0_carrierRows 9 = .ok (.if_icmp .ge 13, 3) := by decide +kernel
theorem dX0_carrierRows_12 : decode cX0_carrierRows 12 = .ok (.iload_n 1, 1) := by decide +kernel
theorem dX0_carrierRows_13 : decode cX0_carrierRows 13 = .ok (.iconst 3, 1) := by decide +kernel
theorem dX0_carrierRows_14 : decode cX0_carrierRows 14 = .ok (.imul, 1) := by decide +kernel
theorem dX0_carrierRows_15 : decode cX0_carrierRows 15 = .ok (.istore_n 1, 1) := by decide +kernel
theorem dX0_carrierRows_16 : decode cX0_carrierRows 16 = .ok (.iinc 2 1, 3) := by decide +kernel
theorem dX0_carrierRows_19 : decode cX0_carrierRows 19 = .ok (.goto (-15), 3) := by decide +kernel
theorem dX0_carrierRows_22 : decode cX0_carrierRows 22 = .ok (.iload_n 1, 1) := by decide +kernel
theorem dX0_carrierRows_23 : decode cX0_carrierRows 23 = .ok (.ireturn, 1) := by decide +kernel
theorem dX0_carrierRow_0 : decode cX0_carrierRow 0 = .ok (.iconst 0, 1) := by decide +kernel
theorem dX0_carrierRow_1 : decode cX0_carrierRow 1 = .ok (.istore_n 1, 1) := by decide +kernel
theorem dX0_carrierRow_2 : decode cX0_carrierRow 2 = .ok (.iconst 0, 1) := by decide +kernel
theorem dX0_carrierRow_3 : decode cX0_carrierRow 3 = .ok (.istore_n 2, 1) := by decide +kernel
theorem dX0_carrierRow_4 : decode cX0_carrierRow 4 = .ok (.iload_n 2, 1) := by decide +kernel
theorem dX0_carrierRow_5 : decode cX0_carrierRow 5 = .ok (.aload_n 0, 1) := by decide +kernel
theorem dX0_carrierRow_6 : decode cX0_carrierRow 6 = .ok (.getfield 46, 3) := by decide +kernel
theorem dX0_carrierRow_9 : decode cX0_carrierRow 9 = .ok (.if_icmp .ge 20, 3) := by decide +kernel
theorem dX0_carrierRow_12 : decode cX0_carrierRow 12 = .ok (.iload_n 1, 1) := by decide +kernel
theorem dX0_carrierRow_13 : decode cX0_carrierRow 13 = .ok (.iconst 3, 1) := by decide +kernel
theorem dX0_carrierRow_14 : decode cX0_carrierRow 14 = .ok (.imul, 1) := by decide +kernel
theorem dX0_carrierRow_15 : decode cX0_carrierRow 15 = .ok (.aload_n 0, 1) := by decide +kernel
theorem dX0_carrierRow_16 : decode cX0_carrierRow 16 = .ok (.getfield 27, 3) := by decide +kernel
theorem dX0_carrierRow_19 : decode cX0_carrierRow 19 = .ok (.iload_n 2, 1) := by decide +kernel
theorem dX0_carrierRow_20 : decode cX0_carrierRow 20 = .ok (.iaload, 1) := by decide +kernel
theorem dX0_carrierRow_21 : decode cX0_carrierRow 21 = .ok (.iadd, 1) := by decide +kernel
theorem dX0_carrierRow_22 : decode cX0_carrierRow 22 = .ok (.istore_n 1, 1) := by decide +kernel
theorem dX0_carrierRow_23 : decode cX0_carrierRow 23 = .ok (.iinc 2 1, 3) := by decide +kernel
theorem dX0_carrierRow_26 : decode cX0_carrierRow 26 = .ok (.goto (-22), 3) := by decide +kernel
theorem dX0_carrierRow_29 : decode cX0_carrierRow 29 = .ok (.iload_n 1, 1) := by decide +kernel
theorem dX0_carrierRow_30 : decode cX0_carrierRow 30 = .ok (.ireturn, 1) := by decide +kernel
theorem dX0_setCarrierRow_0 : decode cX0_setCarrierRow 0 = .ok (.iload_n 1, 1) := by decide +kernel
theorem dX0_setCarrierRow_1 : decode cX0_setCarrierRow 1 = .ok (.istore_n 2, 1) := by decide +kernel
theorem dX0_setCarrierRow_2 : decode cX0_setCarrierRow 2 = .ok (.aload_n 0, 1) := by decide +kernel
theorem dX0_setCarrierRow_3 : decode cX0_setCarrierRow 3 = .ok (.getfield 46, 3) := by decide +kernel
theorem dX0_setCarrierRow_6 : decode cX0_setCarrierRow 6 = .ok (.iconst 1, 1) := by decide +kernel
theorem dX0_setCarrierRow_7 : decode cX0_setCarrierRow 7 = .ok (.isub, 1) := by decide +kernel
theorem dX0_setCarrierRow_8 : decode cX0_setCarrierRow 8 = .ok (.istore_n 3, 1) := by decide +kernel
theorem dX0_setCarrierRow_9 : decode cX0_setCarrierRow 9 = .ok (.iload_n 3, 1) := by decide +kernel
theorem dX0_setCarrierRow_10 : decode cX0_setCarrierRow 10 = .ok (.ifCond .lt 22, 3) := by decide +kernel
theorem dX0_setCarrierRow_13 : decode cX0_setCarrierRow 13 = .ok (.aload_n 0, 1) := by decide +kernel
theorem dX0_setCarrierRow_14 : decode cX0_setCarrierRow 14 = .ok (.getfield 27, 3) := by decide +kernel
theorem dX0_setCarrierRow_17 : decode cX0_setCarrierRow 17 = .ok (.iload_n 3, 1) := by decide +kernel
theorem dX0_setCarrierRow_18 : decode cX0_setCarrierRow 18 = .ok (.iload_n 2, 1) := by decide +kernel
theorem dX0_setCarrierRow_19 : decode cX0_setCarrierRow 19 = .ok (.iconst 3, 1) := by decide +kernel
theorem dX0_setCarrierRow_20 : decode cX0_setCarrierRow 20 = .ok (.irem, 1) := by decide +kernel
theorem dX0_setCarrierRow_21 : decode cX0_setCarrierRow 21 = .ok (.iastore, 1) := by decide +kernel
theorem dX0_setCarrierRow_22 : decode cX0_setCarrierRow 22 = .ok (.iload_n 2, 1) := by decide +kernel
theorem dX0_setCarrierRow_23 : decode cX0_setCarrierRow 23 = .ok (.iconst 3, 1) := by decide +kernel
theorem dX0_setCarrierRow_24 : decode cX0_setCarrierRow 24 = .ok (.idiv, 1) := by decide +kernel
theorem dX0_setCarrierRow_25 : decode cX0_setCarrierRow 25 = .ok (.istore_n 2, 1) := by decide +kernel
theorem dX0_setCarrierRow_26 : decode cX0_setCarrierRow 26 = .ok (.iinc 3 (-1), 3) := by decide +kernel
theorem dX0_setCarrierRow_29 : decode cX0_setCarrierRow 29 = .ok (.goto (-20), 3) := by decide +kernel
theorem dX0_setCarrierRow_32 : decode cX0_setCarrierRow 32 = .ok (.return_, 1) := by decide +kernel
theorem dX1_init_0 : decode cX1_init 0 = .ok (.aload_n 0, 1) := by decide +kernel
theorem dX1_init_1 : decode cX1_init 1 = .ok (.invokespecial 3, 3) := by decide +kernel
theorem dX1_init_4 : decode cX1_init 4 = .ok (.aload_n 0, 1) := by decide +kernel
theorem dX1_init_5 : decode cX1_init 5 = .ok (.bipush 60, 2) := by decide +kernel
theorem dX1_init_7 : decode cX1_init 7 = .ok (.newarray .int, 2) := by decide +kernel
theorem dX1_init_9 : decode cX1_init 9 = .ok (.putfield 9, 3) := by decide +kernel
theorem dX1_init_12 : decode cX1_init 12 = .ok (.aload_n 0, 1) := by decide +kernel
theorem dX1_init_13 : decode cX1_init 13 = .ok (.iconst (-1), 1) := by decide +kernel
theorem dX1_init_14 : decode cX1_init 14 = .ok (.putfield 15, 3) := by decide +kernel
theorem dX1_init_17 : decode cX1_init 17 = .ok (.return_, 1) := by decide +kernel
theorem dX1_hasRow_0 : decode cX1_hasRow 0 = .ok (.aload_n 0, 1) := by decide +kernel
theorem dX1_hasRow_1 : decode cX1_hasRow 1 = .ok (.getfield 15, 3) := by decide +kernel
theorem dX1_hasRow_4 : decode cX1_hasRow 4 = .ok (.iconst (-1), 1) := by decide +kernel
theorem dX1_hasRow_5 : decode cX1_hasRow 5 = .ok (.if_icmp .eq 7, 3) := by decide +kernel
theorem dX1_hasRow_8 : decode cX1_hasRow 8 = .ok (.iconst 1, 1) := by decide +kernel
theorem dX1_hasRow_9 : decode cX1_hasRow 9 = .ok (.goto 4, 3) := by decide +kernel
theorem dX1_hasRow_12 : decode cX1_hasRow 12 = .ok (.iconst 0, 1) := by decide +kernel
theorem dX1_hasRow_13 : decode cX1_hasRow 13 = .ok (.ireturn, 1) := by decide +kernel
theorem dX1_begin_0 : decode cX1_begin 0 = .ok (.aload_n 0, 1) := by decide +kernel
theorem dX1_begin_1 : decode cX1_begin 1 = .ok (.getfield 9, 3) := by decide +kernel
theorem dX1_begin_4 : decode cX1_begin 4 = .ok (.iconst 0, 1) := by decide +kernel
theorem dX1_begin_5 : decode cX1_begin 5 = .ok (.invokestatic 19, 3) := by decide +kernel
theorem dX1_begin_8 : decode cX1_begin 8 = .ok (.aload_n 0, 1) := by decide +kernel
theorem dX1_begin_9 : decode cX1_begin 9 = .ok (.iload_n 1, 1) := by decide +kernel
theorem dX1_begin_10 : decode cX1_begin 10 = .ok (.putfield 15, 3) := by decide +kernel
theorem dX1_begin_13 : decode cX1_begin 13 = .ok (.aload_n 0, 1) := by decide +kernel
theorem dX1_begin_14 : decode cX1_begin 14 = .ok (.iload_n 2, 1) := by decide +kernel
theorem dX1_begin_15 : decode cX1_begin 15 = .ok (.putfield 25, 3) := by decide +kernel
theorem dX1_begin_18 : decode cX1_begin 18 = .ok (.return_, 1) := by decide +kernel
theorem dX1_drop_0 : decode cX1_drop 0 = .ok (.aload_n 0, 1) := by decide +kernel
theorem dX1_drop_1 : decode cX1_drop 1 = .ok (.iconst (-1), 1) := by decide +kernel
theorem dX1_drop_2 : decode cX1_drop 2 = .ok (.putfield 15, 3) := by decide +kernel
theorem dX1_drop_5 : decode cX1_drop 5 = .ok (.aload_n 0, 1) := by decide +kernel
theorem dX1_drop_6 : decode cX1_drop 6 = .ok (.iconst 0, 1) := by decide +kernel
theorem dX1_drop_7 : decode cX1_drop 7 = .ok (.putfield 25, 3) := by decide +kernel
theorem dX1_drop_10 : decode cX1_drop 10 = .ok (.return_, 1) := by decide +kernel
theorem dX1_faultAs_0 : decode cX1_faultAs 0 = .ok (.aload_n 0, 1) := by decide +kernel
theorem dX1_faultAs_1 : decode cX1_faultAs 1 = .ok (.invokevirtual 28, 3) := by decide +kernel
theorem dX1_faultAs_4 : decode cX1_faultAs 4 = .ok (.ifCond .ne 5, 3) := by decide +kernel
theorem dX1_faultAs_7 : decode cX1_faultAs 7 = .ok (.iconst 1, 1) := by decide +kernel
theorem dX1_faultAs_8 : decode cX1_faultAs 8 = .ok (.ireturn, 1) := by decide +kernel
theorem dX1_faultAs_9 : decode cX1_faultAs 9 = .ok (.aload_n 0, 1) := by decide +kernel
theorem dX1_faultAs_10 : decode cX1_faultAs 10 = .ok (.getfield 15, 3) := by decide +kernel
theorem dX1_faultAs_13 : decode cX1_faultAs 13 = .ok (.iload_n 1, 1) := by decide +kernel
theorem dX1_faultAs_14 : decode cX1_faultAs 14 = .ok (.if_icmp .ne 7, 3) := by decide +kernel
theorem dX1_faultAs_17 : decode cX1_faultAs 17 = .ok (.iconst 0, 1) := by decide +kernel
theorem dX1_faultAs_18 : decode cX1_faultAs 18 = .ok (.goto 4, 3) := by decide +kernel
theorem dX1_faultAs_21 : decode cX1_faultAs 21 = .ok (.iconst 2, 1) := by decide +kernel
theorem dX1_faultAs_22 : decode cX1_faultAs 22 = .ok (.ireturn, 1) := by decide +kernel
theorem dX1_hasCell_0 : decode cX1_hasCell 0 = .ok (.iload_n 1, 1) := by decide +kernel
theorem dX1_hasCell_1 : decode cX1_hasCell 1 = .ok (.ifCond .lt 15, 3) := by decide +kernel
theorem dX1_hasCell_4 : decode cX1_hasCell 4 = .ok (.iload_n 1, 1) := by decide +kernel
theorem dX1_hasCell_5 : decode cX1_hasCell 5 = .ok (.aload_n 0, 1) := by decide +kernel
theorem dX1_hasCell_6 : decode cX1_hasCell 6 = .ok (.getfield 25, 3) := by decide +kernel
theorem dX1_hasCell_9 : decode cX1_hasCell 9 = .ok (.if_icmp .ge 7, 3) := by decide +kernel
theorem dX1_hasCell_12 : decode cX1_hasCell 12 = .ok (.iconst 1, 1) := by decide +kernel
theorem dX1_hasCell_13 : decode cX1_hasCell 13 = .ok (.goto 4, 3) := by decide +kernel
theorem dX1_hasCell_16 : decode cX1_hasCell 16 = .ok (.iconst 0, 1) := by decide +kernel
theorem dX1_hasCell_17 : decode cX1_hasCell 17 = .ok (.ireturn, 1) := by decide +kernel
theorem dX1_hasCells_0 : decode cX1_hasCells 0 = .ok (.iload_n 1, 1) := by decide +kernel
theorem dX1_hasCells_1 : decode cX1_hasCells 1 = .ok (.ifCond .lt 29, 3) := by decide +kernel
theorem dX1_hasCells_4 : decode cX1_hasCells 4 = .ok (.iload_n 1, 1) := by decide +kernel
theorem dX1_hasCells_5 : decode cX1_hasCells 5 = .ok (.aload_n 0, 1) := by decide +kernel
theorem dX1_hasCells_6 : decode cX1_hasCells 6 = .ok (.getfield 25, 3) := by decide +kernel
theorem dX1_hasCells_9 : decode cX1_hasCells 9 = .ok (.if_icmp .gt 21, 3) := by decide +kernel
theorem dX1_hasCells_12 : decode cX1_hasCells 12 = .ok (.iload_n 2, 1) := by decide +kernel
theorem dX1_hasCells_13 : decode cX1_hasCells 13 = .ok (.ifCond .lt 17, 3) := by decide +kernel
theorem dX1_hasCells_16 : decode cX1_hasCells 16 = .ok (.iload_n 2, 1) := by decide +kernel
theorem dX1_hasCells_17 : decode cX1_hasCells 17 = .ok (.aload_n 0, 1) := by decide +kernel
theorem dX1_hasCells_18 : decode cX1_hasCells 18 = .ok (.getfield 25, 3) := by decide +kernel
theorem dX1_hasCells_21 : decode cX1_hasCells 21 = .ok (.iload_n 1, 1) := by decide +kernel
theorem dX1_hasCells_22 : decode cX1_hasCells 22 = .ok (.isub, 1) := by decide +kernel
theorem dX1_hasCells_23 : decode cX1_hasCells 23 = .ok (.if_icmp .gt 7, 3) := by decide +kernel
theorem dX1_hasCells_26 : decode cX1_hasCells 26 = .ok (.iconst 1, 1) := by decide +kernel
theorem dX1_hasCells_27 : decode cX1_hasCells 27 = .ok (.goto 4, 3) := by decide +kernel
theorem dX1_hasCells_30 : decode cX1_hasCells 30 = .ok (.iconst 0, 1) := by decide +kernel
theorem dX1_hasCells_31 : decode cX1_hasCells 31 = .ok (.ireturn, 1) := by decide +kernel
theorem dX1_cut_0 : decode cX1_cut 0 = .ok (.aload_n 0, 1) := by decide +kernel
theorem dX1_cut_1 : decode cX1_cut 1 = .ok (.getfield 15, 3) := by decide +kernel
theorem dX1_cut_4 : decode cX1_cut 4 = .ok (.lookupswitch 34 #[(0, 28), (1, 31)], 28) := by decide +kernel
theorem dX1_cut_32 : decode cX1_cut 32 = .ok (.iload_n 1, 1) := by decide +kernel
theorem dX1_cut_33 : decode cX1_cut 33 = .ok (.i2b, 1) := by decide +kernel
theorem dX1_cut_34 : decode cX1_cut 34 = .ok (.ireturn, 1) := by decide +kernel
theorem dX1_cut_35 : decode cX1_cut 35 = .ok (.iload_n 1, 1) := by decide +kernel
theorem dX1_cut_36 : decode cX1_cut 36 = .ok (.i2s, 1) := by decide +kernel
theorem dX1_cut_37 : decode cX1_cut 37 = .ok (.ireturn, 1) := by decide +kernel
theorem dX1_cut_38 : decode cX1_cut 38 = .ok (.iload_n 1, 1) := by decide +kernel
theorem dX1_cut_39 : decode cX1_cut 39 = .ok (.ireturn, 1) := by decide +kernel
theorem dX2_init_0 : decode cX2_init 0 = .ok (.aload_n 0, 1) := by decide +kernel
theorem dX2_init_1 : decode cX2_init 1 = .ok (.invokespecial 3, 3) := by decide +kernel
theorem dX2_init_4 : decode cX2_init 4 = .ok (.return_, 1) := by decide +kernel
theorem dX2_readInto_0 : decode cX2_readInto 0 = .ok (.aload_n 0, 1) := by decide +kernel
theorem dX2_readInto_1 : decode cX2_readInto 1 = .ok (.aload_n 2, 1) := by decide +kernel
theorem dX2_readInto_2 : decode cX2_readInto 2 = .ok (.putfield 9, 3) := by decide +kernel
theorem dX2_readInto_5 : decode cX2_readInto 5 = .ok (.aload_n 0, 1) := by decide +kernel
theorem dX2_readInto_6 : decode cX2_readInto 6 = .ok (.iload_n 3, 1) := by decide +kernel
theorem dX2_readInto_7 : decode cX2_readInto 7 = .ok (.putfield 15, 3) := by decide +kernel
theorem dX2_readInto_10 : decode cX2_readInto 10 = .ok (.aload_n 0, 1) := by decide +kernel
theorem dX2_readInto_11 : decode cX2_readInto 11 = .ok (.iload 4, 2) := by decide +kernel
theorem dX2_readInto_13 : decode cX2_readInto 13 = .ok (.putfield 19, 3) := by decide +kernel
theorem dX2_readInto_16 : decode cX2_readInto 16 = .ok (.aload_n 0, 1) := by decide +kernel
theorem dX2_readInto_17 : decode cX2_readInto 17 = .ok (.iconst 0, 1) := by decide +kernel
theorem dX2_readInto_18 : decode cX2_readInto 18 = .ok (.putfield 22, 3) := by decide +kernel
theorem dX2_readInto_21 : decode cX2_readInto 21 = .ok (.aload_n 1, 1) := by decide +kernel
theorem dX2_readInto_22 : decode cX2_readInto 22 = .ok (.invokevirtual 25, 3) := by decide +kernel
theorem dX2_readInto_25 : decode cX2_readInto 25 = .ok (.aload_n 0, 1) := by decide +kernel
theorem dX2_readInto_26 : decode cX2_readInto 26 = .ok (.bipush 117, 2) := by decide +kernel
theorem dX2_readInto_28 : decode cX2_readInto 28 = .ok (.bipush 117, 2) := by decide +kernel
theorem dX2_readInto_30 : decode cX2_readInto 30 = .ok (.invokevirtual 29, 3) := by decide +kernel
theorem dX2_readInto_33 : decode cX2_readInto 33 = .ok (.ifCond .eq 14, 3) := by decide +kernel
theorem dX2_readInto_36 : decode cX2_readInto 36 = .ok (.aload_n 0, 1) := by decide +kernel
theorem dX2_readInto_37 : decode cX2_readInto 37 = .ok (.bipush 48, 2) := by decide +kernel
theorem dX2_readInto_39 : decode cX2_readInto 39 = .ok (.bipush 57, 2) := by decide +kernel
theorem dX2_readInto_41 : decode cX2_readInto 41 = .ok (.invokevirtual 29, 3) := by decide +kernel
theorem dX2_readInto_44 : decode cX2_readInto 44 = .ok (.ifCond .ne 5, 3) := by decide +kernel
theorem dX2_readInto_47 : decode cX2_readInto 47 = .ok (.iconst 0, 1) := by decide +kernel
theorem dX2_readInto_48 : decode cX2_readInto 48 = .ok (.ireturn, 1) := by decide +kernel
theorem dX2_readInto_49 : decode cX2_readInto 49 = .ok (.aload_n 1, 1) := by decide +kernel
theorem dX2_readInto_50 : decode cX2_readInto 50 = .ok (.aload_n 0, 1) := by decide +kernel
theorem dX2_readInto_51 : decode cX2_readInto 51 = .ok (.iconst 1, 1) := by decide +kernel
theorem dX2_readInto_52 : decode cX2_readInto 52 = .ok (.invokevirtual 33, 3) := by decide +kernel
theorem dX2_readInto_55 : decode cX2_readInto 55 = .ok (.putfield 37, 3) := by decide +kernel
theorem dX2_readInto_58 : decode cX2_readInto 58 = .ok (.aload_n 0, 1) := by decide +kernel
theorem dX2_readInto_59 : decode cX2_readInto 59 = .ok (.aload_n 1, 1) := by decide +kernel
theorem dX2_readInto_60 : decode cX2_readInto 60 = .ok (.invokevirtual 40, 3) := by decide +kernel
theorem dX2_readInto_63 : decode cX2_readInto 63 = .ok (.ifCond .eq 26, 3) := by decide +kernel
theorem dX2_readInto_66 : decode cX2_readInto 66 = .ok (.aload_n 0, 1) := by decide +kernel
theorem dX2_readInto_67 : decode cX2_readInto 67 = .ok (.aload_n 1, 1) := by decide +kernel
theorem dX2_readInto_68 : decode cX2_readInto 68 = .ok (.invokevirtual 44, 3) := by decide +kernel
theorem dX2_readInto_71 : decode cX2_readInto 71 = .ok (.ifCond .eq 18, 3) := by decide +kernel
theorem dX2_readInto_74 : decode cX2_readInto 74 = .ok (.aload_n 0, 1) := by decide +kernel
theorem dX2_readInto_75 : decode cX2_readInto 75 = .ok (.getfield 22, 3) := by decide +kernel
theorem dX2_readInto_78 : decode cX2_readInto 78 = .ok (.aload_n 0, 1) := by decide +kernel
theorem dX2_readInto_79 : decode cX2_readInto 79 = .ok (.getfield 19, 3) := by decide +kernel
theorem dX2_readInto_82 : decode cX2_readInto 82 = .ok (.if_icmp .ne 7, 3) := by decide +kernel
theorem dX2_readInto_85 : decode cX2_readInto 85 = .ok (.iconst 1, 1) := by decide +kernel
theorem dX2_readInto_86 : decode cX2_readInto 86 = .ok (.goto 4, 3) := by decide +kernel
theorem dX2_readInto_89 : decode cX2_readInto 89 = .ok (.iconst 0, 1) := by decide +kernel
theorem dX2_readInto_90 : decode cX2_readInto 90 = .ok (.ireturn, 1) := by decide +kernel
theorem dX2_place_0 : decode cX2_place 0 = .ok (.aload_n 0, 1) := by decide +kernel
theorem dX2_place_1 : decode cX2_place 1 = .ok (.getfield 22, 3) := by decide +kernel
theorem dX2_place_4 : decode cX2_place 4 = .ok (.ireturn, 1) := by decide +kernel
theorem dX2_readPosts_0 : decode cX2_readPosts 0 = .ok (.iconst 0, 1) := by decide +kernel
theorem dX2_readPosts_1 : decode cX2_readPosts 1 = .ok (.istore_n 2, 1) := by decide +kernel
theorem dX2_readPosts_2 : decode cX2_readPosts 2 = .ok (.iload_n 2, 1) := by decide +kernel
theorem dX2_readPosts_3 : decode cX2_readPosts 3 = .ok (.iconst 4, 1) := by decide +kernel
theorem dX2_readPosts_4 : decode cX2_readPosts 4 = .ok (.if_icmp .ge 73, 3) := by decide +kernel
theorem dX2_readPosts_7 : decode cX2_readPosts 7 = .ok (.iload_n 2, 1) := by decide +kernel
theorem dX2_readPosts_8 : decode cX2_readPosts 8 = .ok (.ifCond .le 14, 3) := by decide +kernel
theorem dX2_readPosts_11 : decode cX2_readPosts 11 = .ok (.aload_n 0, 1) := by decide +kernel
theorem dX2_readPosts_12 : decode cX2_readPosts 12 = .ok (.invokevirtual 47, 3) := by decide +kernel
theorem dX2_readPosts_15 : decode cX2_readPosts 15 = .ok (.bipush 59, 2) := by decide +kernel
theorem dX2_readPosts_17 : decode cX2_readPosts 17 = .ok (.if_icmp .eq 5, 3) := by decide +kernel
theorem dX2_readPosts_20 : decode cX2_readPosts 20 = .ok (.iconst 1, 1) := by decide +kernel
theorem dX2_readPosts_21 : decode cX2_readPosts 21 = .ok (.ireturn, 1) := by decide +kernel
theorem dX2_readPosts_22 : decode cX2_readPosts 22 = .ok (.aload_n 0, 1) := by decide +kernel
theorem dX2_readPosts_23 : decode cX2_readPosts 23 = .ok (.bipush 59, 2) := by decide +kernel
theorem dX2_readPosts_25 : decode cX2_readPosts 25 = .ok (.bipush 59, 2) := by decide +kernel
theorem dX2_readPosts_27 : decode cX2_readPosts 27 = .ok (.invokevirtual 29, 3) := by decide +kernel
theorem dX2_readPosts_30 : decode cX2_readPosts 30 = .ok (.ifCond .eq 25, 3) := by decide +kernel
theorem dX2_readPosts_33 : decode cX2_readPosts 33 = .ok (.aload_n 0, 1) := by decide +kernel
theorem dX2_readPosts_34 : decode cX2_readPosts 34 = .ok (.bipush 49, 2) := by decide +kernel
theorem dX2_readPosts_36 : decode cX2_readPosts 36 = .ok (.bipush 57, 2) := by decide +kernel
theorem dX2_readPosts_38 : decode cX2_readPosts 38 = .ok (.invokevirtual 29, 3) := by decide +kernel
theorem dX2_readPosts_41 : decode cX2_readPosts 41 = .ok (.ifCond .eq 14, 3) := by decide +kernel
theorem dX2_readPosts_44 : decode cX2_readPosts 44 = .ok (.aload_n 0, 1) := by decide +kernel
theorem dX2_readPosts_45 : decode cX2_readPosts 45 = .ok (.bipush 48, 2) := by decide +kernel
theorem dX2_readPosts_47 : decode cX2_readPosts 47 = .ok (.bipush 57, 2) := by decide +kernel
theorem dX2_readPosts_49 : decode cX2_readPosts 49 = .ok (.invokevirtual 29, 3) := by decide +kernel
theorem dX2_readPosts_52 : decode cX2_readPosts 52 = .ok (.ifCond .ne 5, 3) := by decide +kernel
theorem dX2_readPosts_55 : decode cX2_readPosts 55 = .ok (.iconst 0, 1) := by decide +kernel
theorem dX2_readPosts_56 : decode cX2_readPosts 56 = .ok (.ireturn, 1) := by decide +kernel
theorem dX2_readPosts_57 : decode cX2_readPosts 57 = .ok (.aload_n 1, 1) := by decide +kernel
theorem dX2_readPosts_58 : decode cX2_readPosts 58 = .ok (.aload_n 0, 1) := by decide +kernel
theorem dX2_readPosts_59 : decode cX2_readPosts 59 = .ok (.iconst 2, 1) := by decide +kernel
theorem dX2_readPosts_60 : decode cX2_readPosts 60 = .ok (.invokevirtual 33, 3) := by decide +kernel
theorem dX2_readPosts_63 : decode cX2_readPosts 63 = .ok (.aload_n 0, 1) := by decide +kernel
theorem dX2_readPosts_64 : decode cX2_readPosts 64 = .ok (.iconst 1, 1) := by decide +kernel
theorem dX2_readPosts_65 : decode cX2_readPosts 65 = .ok (.invokevirtual 33, 3) := by decide +kernel
theorem dX2_readPosts_68 : decode cX2_readPosts 68 = .ok (.invokevirtual 51, 3) := by decide +kernel
theorem dX2_readPosts_71 : decode cX2_readPosts 71 = .ok (.iinc 2 1, 3) := by decide +kernel
theorem dX2_readPosts_74 : decode cX2_readPosts 74 = .ok (.goto (-72), 3) := by decide +kernel
theorem dX2_readPosts_77 : decode cX2_readPosts 77 = .ok (.iconst 1, 1) := by decide +kernel
theorem dX2_readPosts_78 : decode cX2_readPosts 78 = .ok (.ireturn, 1) := by decide +kernel
theorem dX2_readSilences_0 : decode cX2_readSilences 0 = .ok (.iconst 0, 1) := by decide +kernel
theorem dX2_readSilences_1 : decode cX2_readSilences 1 = .ok (.istore_n 2, 1) := by decide +kernel
theorem dX2_readSilences_2 : decode cX2_readSilences 2 = .ok (.iload_n 2, 1) := by decide +kernel
theorem dX2_readSilences_3 : decode cX2_readSilences 3 = .ok (.iconst 4, 1) := by decide +kernel
theorem dX2_readSilences_4 : decode cX2_readSilences 4 = .ok (.if_icmp .ge 104, 3) := by decide +kernel
theorem dX2_readSilences_7 : decode cX2_readSilences 7 = .ok (.iload_n 2, 1) := by decide +kernel
theorem dX2_readSilences_8 : decode cX2_readSilences 8 = .ok (.ifCond .le 16, 3) := by decide +kernel
theorem dX2_readSilences_11 : decode cX2_readSilences 11 = .ok (.aload_n 0, 1) := by decide +kernel
theorem dX2_readSilences_12 : decode cX2_readSilences 12 = .ok (.getfield 22, 3) := by decide +kernel
theorem dX2_readSilences_15 : decode cX2_readSilences 15 = .ok (.aload_n 0, 1) := by decide +kernel
theorem dX2_readSilences_16 : decode cX2_readSilences 16 = .ok (.getfield 19, 3) := by decide +kernel
theorem dX2_readSilences_19 : decode cX2_readSilences 19 = .ok (.if_icmp .ne 5, 3) := by decide +kernel
theorem dX2_readSilences_22 : decode cX2_readSilences 22 = .ok (.iconst 1, 1) := by decide +kernel
theorem dX2_readSilences_23 : decode cX2_readSilences 23 = .ok (.ireturn, 1) := by decide +kernel
theorem dX2_readSilences_24 : decode cX2_readSilences 24 = .ok (.aload_n 0, 1) := by decide +kernel
theorem dX2_readSilences_25 : decode cX2_readSilences 25 = .ok (.bipush 44, 2) := by decide +kernel
theorem dX2_readSilences_27 : decode cX2_readSilences 27 = .ok (.bipush 44, 2) := by decide +kernel
theorem dX2_readSilences_29 : decode cX2_readSilences 29 = .ok (.invokevirtual 29, 3) := by decide +kernel
theorem dX2_readSilences_32 : decode cX2_readSilences 32 = .ok (.ifCond .ne 5, 3) := by decide +kernel
theorem dX2_readSilences_35 : decode cX2_readSilences 35 = .ok (.iconst 0, 1) := by decide +kernel
theorem dX2_readSilences_36 : decode cX2_readSilences 36 = .ok (.ireturn, 1) := by decide +kernel
theorem dX2_readSilences_37 : decode cX2_readSilences 37 = .ok (.aload_n 0, 1) := by decide +kernel
theorem dX2_readSilences_38 : decode cX2_readSilences 38 = .ok (.invokevirtual 47, 3) := by decide +kernel
theorem dX2_readSilences_41 : decode cX2_readSilences 41 = .ok (.invokestatic 55, 3) := by decide +kernel
theorem dX2_readSilences_44 : decode cX2_readSilences 44 = .ok (.istore_n 3, 1) := by decide +kernel
theorem dX2_readSilences_45 : decode cX2_readSilences 45 = .ok (.iload_n 3, 1) := by decide +kernel
theorem dX2_readSilences_46 : decode cX2_readSilences 46 = .ok (.bipush (-9), 2) := by decide +kernel
theorem dX2_readSilences_48 : decode cX2_readSilences 48 = .ok (.if_icmp .ne 5, 3) := by decide +kernel
theorem dX2_readSilences_51 : decode cX2_readSilences 51 = .ok (.iconst 0, 1) := by decide +kernel
theorem dX2_readSilences_52 : decode cX2_readSilences 52 = .ok (.ireturn, 1) := by decide +kernel
theorem dX2_readSilences_53 : decode cX2_readSilences 53 = .ok (.aload_n 0, 1) := by decide +kernel
theorem dX2_readSilences_54 : decode cX2_readSilences 54 = .ok (.dup, 1) := by decide +kernel
theorem dX2_readSilences_55 : decode cX2_readSilences 55 = .ok (.getfield 22, 3) := by decide +kernel
theorem dX2_readSilences_58 : decode cX2_readSilences 58 = .ok (.iconst 1, 1) := by decide +kernel
theorem dX2_readSilences_59 : decode cX2_readSilences 59 = .ok (.iadd, 1) := by decide +kernel
theorem dX2_readSilences_60 : decode cX2_readSilences 60 = .ok (.putfield 22, 3) := by decide +kernel
theorem dX2_readSilences_63 : decode cX2_readSilences 63 = .ok (.aload_n 0, 1) := by decide +kernel
theorem dX2_readSilences_64 : decode cX2_readSilences 64 = .ok (.bipush 49, 2) := by decide +kernel
theorem dX2_readSilences_66 : decode cX2_readSilences 66 = .ok (.bipush 57, 2) := by decide +kernel
theorem dX2_readSilences_68 : decode cX2_readSilences 68 = .ok (.invokevirtual 29, 3) := by decide +kernel
theorem dX2_readSilences_71 : decode cX2_readSilences 71 = .ok (.ifCond .eq 14, 3) := by decide +kernel
theorem dX2_readSilences_74 : decode cX2_readSilences 74 = .ok (.aload_n 0, 1) := by decide +kernel
theorem dX2_readSilences_75 : decode cX2_readSilences 75 = .ok (.bipush 49, 2) := by decide +kernel
theorem dX2_readSilences_77 : decode cX2_readSilences 77 = .ok (.bipush 57, 2) := by decide +kernel
theorem dX2_readSilences_79 : decode cX2_readSilences 79 = .ok (.invokevirtual 29, 3) := by decide +kernel
theorem dX2_readSilences_82 : decode cX2_readSilences 82 = .ok (.ifCond .ne 5, 3) := by decide +kernel
theorem dX2_readSilences_85 : decode cX2_readSilences 85 = .ok (.iconst 0, 1) := by decide +kernel
theorem dX2_readSilences_86 : decode cX2_readSilences 86 = .ok (.ireturn, 1) := by decide +kernel
theorem dX2_readSilences_87 : decode cX2_readSilences 87 = .ok (.aload_n 1, 1) := by decide +kernel
theorem dX2_readSilences_88 : decode cX2_readSilences 88 = .ok (.iload_n 3, 1) := by decide +kernel
theorem dX2_readSilences_89 : decode cX2_readSilences 89 = .ok (.aload_n 0, 1) := by decide +kernel
theorem dX2_readSilences_90 : decode cX2_readSilences 90 = .ok (.iconst 2, 1) := by decide +kernel
theorem dX2_readSilences_91 : decode cX2_readSilences 91 = .ok (.invokevirtual 33, 3) := by decide +kernel
theorem dX2_readSilences_94 : decode cX2_readSilences 94 = .ok (.aload_n 0, 1) := by decide +kernel
theorem dX2_readSilences_95 : decode cX2_readSilences 95 = .ok (.iconst 1, 1) := by decide +kernel
theorem dX2_readSilences_96 : decode cX2_readSilences 96 = .ok (.invokevirtual 33, 3) := by decide +kernel
theorem dX2_readSilences_99 : decode cX2_readSilences 99 = .ok (.invokevirtual 58, 3) := by decide +kernel
theorem dX2_readSilences_102 : decode cX2_readSilences 102 = .ok (.iinc 2 1, 3) := by decide +kernel
theorem dX2_readSilences_105 : decode cX2_readSilences 105 = .ok (.goto (-103), 3) := by decide +kernel
theorem dX2_readSilences_108 : decode cX2_readSilences 108 = .ok (.iconst 1, 1) := by decide +kernel
theorem dX2_readSilences_109 : decode cX2_readSilences 109 = .ok (.ireturn, 1) := by decide +kernel
theorem dX2_takes_0 : decode cX2_takes 0 = .ok (.aload_n 0, 1) := by decide +kernel
theorem dX2_takes_1 : decode cX2_takes 1 = .ok (.invokevirtual 47, 3) := by decide +kernel
theorem dX2_takes_4 : decode cX2_takes 4 = .ok (.istore_n 3, 1) := by decide +kernel
theorem dX2_takes_5 : decode cX2_takes 5 = .ok (.iload_n 3, 1) := by decide +kernel
theorem dX2_takes_6 : decode cX2_takes 6 = .ok (.iload_n 1, 1) := by decide +kernel
theorem dX2_takes_7 : decode cX2_takes 7 = .ok (.if_icmp .lt 8, 3) := by decide +kernel
theorem dX2_takes_10 : decode cX2_takes 10 = .ok (.iload_n 3, 1) := by decide +kernel
theorem dX2_takes_11 : decode cX2_takes 11 = .ok (.iload_n 2, 1) := by decide +kernel
theorem dX2_takes_12 : decode cX2_takes 12 = .ok (.if_icmp .le 5, 3) := by decide +kernel
theorem dX2_takes_15 : decode cX2_takes 15 = .ok (.iconst 0, 1) := by decide +kernel
theorem dX2_takes_16 : decode cX2_takes 16 = .ok (.ireturn, 1) := by decide +kernel
theorem dX2_takes_17 : decode cX2_takes 17 = .ok (.aload_n 0, 1) := by decide +kernel
theorem dX2_takes_18 : decode cX2_takes 18 = .ok (.dup, 1) := by decide +kernel
theorem dX2_takes_19 : decode cX2_takes 19 = .ok (.getfield 22, 3) := by decide +kernel
theorem dX2_takes_22 : decode cX2_takes 22 = .ok (.iconst 1, 1) := by decide +kernel
theorem dX2_takes_23 : decode cX2_takes 23 = .ok (.iadd, 1) := by decide +kernel
theorem dX2_takes_24 : decode cX2_takes 24 = .ok (.putfield 22, 3) := by decide +kernel
theorem dX2_takes_27 : decode cX2_takes 27 = .ok (.iconst 1, 1) := by decide +kernel
theorem dX2_takes_28 : decode cX2_takes 28 = .ok (.ireturn, 1) := by decide +kernel
theorem dX2_code_0 : decode cX2_code 0 = .ok (.aload_n 0, 1) := by decide +kernel
theorem dX2_code_1 : decode cX2_code 1 = .ok (.getfield 22, 3) := by decide +kernel
theorem dX2_code_4 : decode cX2_code 4 = .ok (.aload_n 0, 1) := by decide +kernel
theorem dX2_code_5 : decode cX2_code 5 = .ok (.getfield 19, 3) := by decide +kernel
theorem dX2_code_8 : decode cX2_code 8 = .ok (.if_icmp .ge 14, 3) := by decide +kernel
theorem dX2_code_11 : decode cX2_code 11 = .ok (.aload_n 0, 1) := by decide +kernel
theorem dX2_code_12 : decode cX2_code 12 = .ok (.aload_n 0, 1) := by decide +kernel
theorem dX2_code_13 : decode cX2_code 13 = .ok (.getfield 22, 3) := by decide +kernel
theorem dX2_code_16 : decode cX2_code 16 = .ok (.invokevirtual 62, 3) := by decide +kernel
theorem dX2_code_19 : decode cX2_code 19 = .ok (.goto 5, 3) := by decide +kernel
theorem dX2_code_22 : decode cX2_code 22 = .ok (.bipush (-9), 2) := by decide +kernel
theorem dX2_code_24 : decode cX2_code 24 = .ok (.ireturn, 1) := by decide +kernel
theorem dX2_digitBefore_0 : decode cX2_digitBefore 0 = .ok (.aload_n 0, 1) := by decide +kernel
theorem dX2_digitBefore_1 : decode cX2_digitBefore 1 = .ok (.aload_n 0, 1) := by decide +kernel
theorem dX2_digitBefore_2 : decode cX2_digitBefore 2 = .ok (.getfield 22, 3) := by decide +kernel
theorem dX2_digitBefore_5 : decode cX2_digitBefore 5 = .ok (.iload_n 1, 1) := by decide +kernel
theorem dX2_digitBefore_6 : decode cX2_digitBefore 6 = .ok (.isub, 1) := by decide +kernel
theorem dX2_digitBefore_7 : decode cX2_digitBefore 7 = .ok (.invokevirtual 62, 3) := by decide +kernel
theorem dX2_digitBefore_10 : decode cX2_digitBefore 10 = .ok (.bipush 48, 2) := by decide +kernel
theorem dX2_digitBefore_12 : decode cX2_digitBefore 12 = .ok (.isub, 1) := by decide +kernel
theorem dX2_digitBefore_13 : decode cX2_digitBefore 13 = .ok (.ireturn, 1) := by decide +kernel
theorem dX2_codeAt_0 : decode cX2_codeAt 0 = .ok (.aload_n 0, 1) := by decide +kernel
theorem dX2_codeAt_1 : decode cX2_codeAt 1 = .ok (.getfield 9, 3) := by decide +kernel
theorem dX2_codeAt_4 : decode cX2_codeAt 4 = .ok (.ifnull 36, 3) := by decide +kernel
theorem dX2_codeAt_7 : decode cX2_codeAt 7 = .ok (.aload_n 0, 1) := by decide +kernel
theorem dX2_codeAt_8 : decode cX2_codeAt 8 = .ok (.getfield 9, 3) := by decide +kernel
theorem dX2_codeAt_11 : decode cX2_codeAt 11 = .ok (.aload_n 0, 1) := by decide +kernel
theorem dX2_codeAt_12 : decode cX2_codeAt 12 = .ok (.getfield 15, 3) := by decide +kernel
theorem dX2_codeAt_15 : decode cX2_codeAt 15 = .ok (.iload_n 1, 1) := by decide +kernel
theorem dX2_codeAt_16 : decode cX2_codeAt 16 = .ok (.iadd, 1) := by decide +kernel
theorem dX2_codeAt_17 : decode cX2_codeAt 17 = .ok (.invokevirtual 65, 3) := by decide +kernel
theorem dX2_codeAt_20 : decode cX2_codeAt 20 = .ok (.ifCond .eq 20, 3) := by decide +kernel
theorem dX2_codeAt_23 : decode cX2_codeAt 23 = .ok (.aload_n 0, 1) := by decide +kernel
theorem dX2_codeAt_24 : decode cX2_codeAt 24 = .ok (.getfield 9, 3) := by decide +kernel
theorem dX2_codeAt_27 : decode cX2_codeAt 27 = .ok (.getfield 71, 3) := by decide +kernel
theorem dX2_codeAt_30 : decode cX2_codeAt 30 = .ok (.aload_n 0, 1) := by decide +kernel
theorem dX2_codeAt_31 : decode cX2_codeAt 31 = .ok (.getfield 15, 3) := by decide +kernel
theorem dX2_codeAt_34 : decode cX2_codeAt 34 = .ok (.iload_n 1, 1) := by decide +kernel
theorem dX2_codeAt_35 : decode cX2_codeAt 35 = .ok (.iadd, 1) := by decide +kernel
theorem dX2_codeAt_36 : decode cX2_codeAt 36 = .ok (.iaload, 1) := by decide +kernel
theorem dX2_codeAt_37 : decode cX2_codeAt 37 = .ok (.goto 5, 3) := by decide +kernel
theorem dX2_codeAt_40 : decode cX2_codeAt 40 = .ok (.bipush (-9), 2) := by decide +kernel
theorem dX2_codeAt_42 : decode cX2_codeAt 42 = .ok (.ireturn, 1) := by decide +kernel
theorem dX2_kindOf_0 : decode cX2_kindOf 0 = .ok (.iload_n 0, 1) := by decide +kernel
theorem dX2_kindOf_1 : decode cX2_kindOf 1 = .ok (.lookupswitch 41 #[(104, 39), (107, 37), (115, 35)], 35) := by decide +kernel
theorem dX2_kindOf_36 : decode cX2_kindOf 36 = .ok (.iconst 0, 1) := by decide +kernel
theorem dX2_kindOf_37 : decode cX2_kindOf 37 = .ok (.ireturn, 1) := by decide +kernel
theorem dX2_kindOf_38 : decode cX2_kindOf 38 = .ok (.iconst 1, 1) := by decide +kernel
theorem dX2_kindOf_39 : decode cX2_kindOf 39 = .ok (.ireturn, 1) := by decide +kernel
theorem dX2_kindOf_40 : decode cX2_kindOf 40 = .ok (.iconst 2, 1) := by decide +kernel
theorem dX2_kindOf_41 : decode cX2_kindOf 41 = .ok (.ireturn, 1) := by decide +kernel
theorem dX2_kindOf_42 : decode cX2_kindOf 42 = .ok (.bipush (-9), 2) := by decide +kernel
theorem dX2_kindOf_44 : decode cX2_kindOf 44 = .ok (.ireturn, 1) := by decide +kernel
theorem dX3_init_0 : decode cX3_init 0 = .ok (.aload_n 0, 1) := by decide +kernel
theorem dX3_init_1 : decode cX3_init 1 = .ok (.invokespecial 3, 3) := by decide +kernel
theorem dX3_init_4 : decode cX3_init 4 = .ok (.aload_n 0, 1) := by decide +kernel
theorem dX3_init_5 : decode cX3_init 5 = .ok (.bipush 8, 2) := by decide +kernel
theorem dX3_init_7 : decode cX3_init 7 = .ok (.newarray .int, 2) := by decide +kernel
theorem dX3_init_9 : decode cX3_init 9 = .ok (.putfield 9, 3) := by decide +kernel
theorem dX3_init_12 : decode cX3_init 12 = .ok (.return_, 1) := by decide +kernel
theorem dX3_begin_0 : decode cX3_begin 0 = .ok (.aload_n 0, 1) := by decide +kernel
theorem dX3_begin_1 : decode cX3_begin 1 = .ok (.iconst 0, 1) := by decide +kernel
theorem dX3_begin_2 : decode cX3_begin 2 = .ok (.putfield 15, 3) := by decide +kernel
theorem dX3_begin_5 : decode cX3_begin 5 = .ok (.return_, 1) := by decide +kernel
theorem dX3_goOn_0 : decode cX3_goOn 0 = .ok (.aload_n 0, 1) := by decide +kernel
theorem dX3_goOn_1 : decode cX3_goOn 1 = .ok (.getfield 15, 3) := by decide +kernel
theorem dX3_goOn_4 : decode cX3_goOn 4 = .ok (.bipush 8, 2) := by decide +kernel
theorem dX3_goOn_6 : decode cX3_goOn 6 = .ok (.if_icmp .ge 23, 3) := by decide +kernel
theorem dX3_goOn_9 : decode cX3_goOn 9 = .ok (.aload_n 0, 1) := by decide +kernel
theorem dX3_goOn_10 : decode cX3_goOn 10 = .ok (.getfield 9, 3) := by decide +kernel
theorem dX3_goOn_13 : decode cX3_goOn 13 = .ok (.aload_n 0, 1) := by decide +kernel
theorem dX3_goOn_14 : decode cX3_goOn 14 = .ok (.getfield 15, 3) := by decide +kernel
theorem dX3_goOn_17 : decode cX3_goOn 17 = .ok (.iload_n 1, 1) := by decide +kernel
theorem dX3_goOn_18 : decode cX3_goOn 18 = .ok (.iastore, 1) := by decide +kernel
theorem dX3_goOn_19 : decode cX3_goOn 19 = .ok (.aload_n 0, 1) := by decide +kernel
theorem dX3_goOn_20 : decode cX3_goOn 20 = .ok (.dup, 1) := by decide +kernel
theorem dX3_goOn_21 : decode cX3_goOn 21 = .ok (.getfield 15, 3) := by decide +kernel
theorem dX3_goOn_24 : decode cX3_goOn 24 = .ok (.iconst 1, 1) := by decide +kernel
theorem dX3_goOn_25 : decode cX3_goOn 25 = .ok (.iadd, 1) := by decide +kernel
theorem dX3_goOn_26 : decode cX3_goOn 26 = .ok (.putfield 15, 3) := by decide +kernel
theorem dX3_goOn_29 : decode cX3_goOn 29 = .ok (.return_, 1) := by decide +kernel
theorem dX3_costIn_0 : decode cX3_costIn 0 = .ok (.lconst 0, 1) := by decide +kernel
theorem dX3_costIn_1 : decode cX3_costIn 1 = .ok (.lstore_n 2, 1) := by decide +kernel
theorem dX3_costIn_2 : decode cX3_costIn 2 = .ok (.iconst 0, 1) := by decide +kernel
theorem dX3_costIn_3 : decode cX3_costIn 3 = .ok (.istore 4, 2) := by decide +kernel
theorem dX3_costIn_5 : decode cX3_costIn 5 = .ok (.iload 4, 2) := by decide +kernel
theorem dX3_costIn_7 : decode cX3_costIn 7 = .ok (.aload_n 0, 1) := by decide +kernel
theorem dX3_costIn_8 : decode cX3_costIn 8 = .ok (.getfield 15, 3) := by decide +kernel
theorem dX3_costIn_11 : decode cX3_costIn 11 = .ok (.if_icmp .ge 28, 3) := by decide +kernel
theorem dX3_costIn_14 : decode cX3_costIn 14 = .ok (.lload_n 2, 1) := by decide +kernel
theorem dX3_costIn_15 : decode cX3_costIn 15 = .ok (.aload_n 1, 1) := by decide +kernel
theorem dX3_costIn_16 : decode cX3_costIn 16 = .ok (.aload_n 0, 1) := by decide +kernel
theorem dX3_costIn_17 : decode cX3_costIn 17 = .ok (.getfield 9, 3) := by decide +kernel
theorem dX3_costIn_20 : decode cX3_costIn 20 = .ok (.iload 4, 2) := by decide +kernel
theorem dX3_costIn_22 : decode cX3_costIn 22 = .ok (.iaload, 1) := by decide +kernel
theorem dX3_costIn_23 : decode cX3_costIn 23 = .ok (.invokevirtual 19, 3) := by decide +kernel
theorem dX3_costIn_26 : decode cX3_costIn 26 = .ok (.i2l, 1) := by decide +kernel
theorem dX3_costIn_27 : decode cX3_costIn 27 = .ok (.ldc2_w 25, 3) := by decide +kernel
theorem dX3_costIn_30 : decode cX3_costIn 30 = .ok (.lmul, 1) := by decide +kernel
theorem dX3_costIn_31 : decode cX3_costIn 31 = .ok (.ladd, 1) := by decide +kernel
theorem dX3_costIn_32 : decode cX3_costIn 32 = .ok (.lstore_n 2, 1) := by decide +kernel
theorem dX3_costIn_33 : decode cX3_costIn 33 = .ok (.iinc 4 1, 3) := by decide +kernel
theorem dX3_costIn_36 : decode cX3_costIn 36 = .ok (.goto (-31), 3) := by decide +kernel
theorem dX3_costIn_39 : decode cX3_costIn 39 = .ok (.iconst 0, 1) := by decide +kernel
theorem dX3_costIn_40 : decode cX3_costIn 40 = .ok (.istore 4, 2) := by decide +kernel
theorem dX3_costIn_42 : decode cX3_costIn 42 = .ok (.iload 4, 2) := by decide +kernel
theorem dX3_costIn_44 : decode cX3_costIn 44 = .ok (.aload_n 1, 1) := by decide +kernel
theorem dX3_costIn_45 : decode cX3_costIn 45 = .ok (.getfield 27, 3) := by decide +kernel
theorem dX3_costIn_48 : decode cX3_costIn 48 = .ok (.if_icmp .ge 19, 3) := by decide +kernel
theorem dX3_costIn_51 : decode cX3_costIn 51 = .ok (.lload_n 2, 1) := by decide +kernel
theorem dX3_costIn_52 : decode cX3_costIn 52 = .ok (.aload_n 0, 1) := by decide +kernel
theorem dX3_costIn_53 : decode cX3_costIn 53 = .ok (.aload_n 1, 1) := by decide +kernel
theorem dX3_costIn_54 : decode cX3_costIn 54 = .ok (.iload 4, 2) := by decide +kernel
theorem dX3_costIn_56 : decode cX3_costIn 56 = .ok (.invokevirtual 30, 3) := by decide +kernel
theorem dX3_costIn_59 : decode cX3_costIn 59 = .ok (.ladd, 1) := by decide +kernel
theorem dX3_costIn_60 : decode cX3_costIn 60 = .ok (.lstore_n 2, 1) := by decide +kernel
theorem dX3_costIn_61 : decode cX3_costIn 61 = .ok (.iinc 4 1, 3) := by decide +kernel
theorem dX3_costIn_64 : decode cX3_costIn 64 = .ok (.goto (-22), 3) := by decide +kernel
theorem dX3_costIn_67 : decode cX3_costIn 67 = .ok (.lload_n 2, 1) := by decide +kernel
theorem dX3_costIn_68 : decode cX3_costIn 68 = .ok (.lreturn, 1) := by decide +kernel
theorem dX3_meanTaken_0 : decode cX3_meanTaken 0 = .ok (.ldc2_w 25, 3) := by decide +kernel
theorem dX3_meanTaken_3 : decode cX3_meanTaken 3 = .ok (.lstore_n 3, 1) := by decide +kernel
theorem dX3_meanTaken_4 : decode cX3_meanTaken 4 = .ok (.lconst 0, 1) := by decide +kernel
theorem dX3_meanTaken_5 : decode cX3_meanTaken 5 = .ok (.lstore 5, 2) := by decide +kernel
theorem dX3_meanTaken_7 : decode cX3_meanTaken 7 = .ok (.iconst 0, 1) := by decide +kernel
theorem dX3_meanTaken_8 : decode cX3_meanTaken 8 = .ok (.istore 7, 2) := by decide +kernel
theorem dX3_meanTaken_10 : decode cX3_meanTaken 10 = .ok (.iload 7, 2) := by decide +kernel
theorem dX3_meanTaken_12 : decode cX3_meanTaken 12 = .ok (.aload_n 0, 1) := by decide +kernel
theorem dX3_meanTaken_13 : decode cX3_meanTaken 13 = .ok (.getfield 15, 3) := by decide +kernel
theorem dX3_meanTaken_16 : decode cX3_meanTaken 16 = .ok (.if_icmp .ge 66, 3) := by decide +kernel
theorem dX3_meanTaken_19 : decode cX3_meanTaken 19 = .ok (.aload_n 0, 1) := by decide +kernel
theorem dX3_meanTaken_20 : decode cX3_meanTaken 20 = .ok (.getfield 9, 3) := by decide +kernel
theorem dX3_meanTaken_23 : decode cX3_meanTaken 23 = .ok (.iload 7, 2) := by decide +kernel
theorem dX3_meanTaken_25 : decode cX3_meanTaken 25 = .ok (.iaload, 1) := by decide +kernel
theorem dX3_meanTaken_26 : decode cX3_meanTaken 26 = .ok (.istore 8, 2) := by decide +kernel
theorem dX3_meanTaken_28 : decode cX3_meanTaken 28 = .ok (.lload_n 3, 1) := by decide +kernel
theorem dX3_meanTaken_29 : decode cX3_meanTaken 29 = .ok (.ldc2_w 34, 3) := by decide +kernel
theorem dX3_meanTaken_32 : decode cX3_meanTaken 32 = .ok (.ldiv, 1) := by decide +kernel
theorem dX3_meanTaken_33 : decode cX3_meanTaken 33 = .ok (.aload_n 1, 1) := by decide +kernel
theorem dX3_meanTaken_34 : decode cX3_meanTaken 34 = .ok (.iload_n 2, 1) := by decide +kernel
theorem dX3_meanTaken_35 : decode cX3_meanTaken 35 = .ok (.iload 8, 2) := by decide +kernel
theorem dX3_meanTaken_37 : decode cX3_meanTaken 37 = .ok (.invokevirtual 36, 3) := by decide +kernel
theorem dX3_meanTaken_40 : decode cX3_meanTaken 40 = .ok (.i2l, 1) := by decide +kernel
theorem dX3_meanTaken_41 : decode cX3_meanTaken 41 = .ok (.lmul, 1) := by decide +kernel
theorem dX3_meanTaken_42 : decode cX3_meanTaken 42 = .ok (.lstore 9, 2) := by decide +kernel
theorem dX3_meanTaken_44 : decode cX3_meanTaken 44 = .ok (.lload 5, 2) := by decide +kernel
theorem dX3_meanTaken_46 : decode cX3_meanTaken 46 = .ok (.lload 9, 2) := by decide +kernel
theorem dX3_meanTaken_48 : decode cX3_meanTaken 48 = .ok (.ldc2_w 40, 3) := by decide +kernel
theorem dX3_meanTaken_51 : decode cX3_meanTaken 51 = .ok (.lmul, 1) := by decide +kernel
theorem dX3_meanTaken_52 : decode cX3_meanTaken 52 = .ok (.aload_n 1, 1) := by decide +kernel
theorem dX3_meanTaken_53 : decode cX3_meanTaken 53 = .ok (.iload_n 2, 1) := by decide +kernel
theorem dX3_meanTaken_54 : decode cX3_meanTaken 54 = .ok (.invokevirtual 42, 3) := by decide +kernel
theorem dX3_meanTaken_57 : decode cX3_meanTaken 57 = .ok (.i2l, 1) := by decide +kernel
theorem dX3_meanTaken_58 : decode cX3_meanTaken 58 = .ok (.lmul, 1) := by decide +kernel
theorem dX3_meanTaken_59 : decode cX3_meanTaken 59 = .ok (.aload_n 1, 1) := by decide +kernel
theorem dX3_meanTaken_60 : decode cX3_meanTaken 60 = .ok (.getfield 45, 3) := by decide +kernel
theorem dX3_meanTaken_63 : decode cX3_meanTaken 63 = .ok (.iload 8, 2) := by decide +kernel
theorem dX3_meanTaken_65 : decode cX3_meanTaken 65 = .ok (.iaload, 1) := by decide +kernel
theorem dX3_meanTaken_66 : decode cX3_meanTaken 66 = .ok (.i2l, 1) := by decide +kernel
theorem dX3_meanTaken_67 : decode cX3_meanTaken 67 = .ok (.lmul, 1) := by decide +kernel
theorem dX3_meanTaken_68 : decode cX3_meanTaken 68 = .ok (.ladd, 1) := by decide +kernel
theorem dX3_meanTaken_69 : decode cX3_meanTaken 69 = .ok (.lstore 5, 2) := by decide +kernel
theorem dX3_meanTaken_71 : decode cX3_meanTaken 71 = .ok (.lload_n 3, 1) := by decide +kernel
theorem dX3_meanTaken_72 : decode cX3_meanTaken 72 = .ok (.lload 9, 2) := by decide +kernel
theorem dX3_meanTaken_74 : decode cX3_meanTaken 74 = .ok (.lsub, 1) := by decide +kernel
theorem dX3_meanTaken_75 : decode cX3_meanTaken 75 = .ok (.lstore_n 3, 1) := by decide +kernel
theorem dX3_meanTaken_76 : decode cX3_meanTaken 76 = .ok (.iinc 7 1, 3) := by decide +kernel
theorem dX3_meanTaken_79 : decode cX3_meanTaken 79 = .ok (.goto (-69), 3) := by decide +kernel
theorem dX3_meanTaken_82 : decode cX3_meanTaken 82 = .ok (.lload 5, 2) := by decide +kernel
theorem dX3_meanTaken_84 : decode cX3_meanTaken 84 = .ok (.lreturn, 1) := by decide +kernel
theorem dX4_init_0 : decode cX4_init 0 = .ok (.aload_n 0, 1) := by decide +kernel
theorem dX4_init_1 : decode cX4_init 1 = .ok (.invokespecial 3, 3) := by decide +kernel
theorem dX4_init_4 : decode cX4_init 4 = .ok (.aload_n 0, 1) := by decide +kernel
theorem dX4_init_5 : decode cX4_init 5 = .ok (.iconst 4, 1) := by decide +kernel
theorem dX4_init_6 : decode cX4_init 6 = .ok (.anewarray 11, 3) := by decide +kernel
theorem dX4_init_9 : decode cX4_init 9 = .ok (.putfield 13, 3) := by decide +kernel
theorem dX4_init_12 : decode cX4_init 12 = .ok (.iconst 0, 1) := by decide +kernel
theorem dX4_init_13 : decode cX4_init 13 = .ok (.istore_n 1, 1) := by decide +kernel
theorem dX4_init_14 : decode cX4_init 14 = .ok (.iload_n 1, 1) := by decide +kernel
theorem dX4_init_15 : decode cX4_init 15 = .ok (.iconst 4, 1) := by decide +kernel
theorem dX4_init_16 : decode cX4_init 16 = .ok (.if_icmp .ge 22, 3) := by decide +kernel
theorem dX4_init_19 : decode cX4_init 19 = .ok (.aload_n 0, 1) := by decide +kernel
theorem dX4_init_20 : decode cX4_init 20 = .ok (.getfield 13, 3) := by decide +kernel
theorem dX4_init_23 : decode cX4_init 23 = .ok (.iload_n 1, 1) := by decide +kernel
theorem dX4_init_24 : decode cX4_init 24 = .ok (.new 11, 3) := by decide +kernel
theorem dX4_init_27 : decode cX4_init 27 = .ok (.dup, 1) := by decide +kernel
theorem dX4_init_28 : decode cX4_init 28 = .ok (.invokespecial 17, 3) := by decide +kernel
theorem dX4_init_31 : decode cX4_init 31 = .ok (.aastore, 1) := by decide +kernel
theorem dX4_init_32 : decode cX4_init 32 = .ok (.iinc 1 1, 3) := by decide +kernel
theorem dX4_init_35 : decode cX4_init 35 = .ok (.goto (-21), 3) := by decide +kernel
theorem dX4_init_38 : decode cX4_init 38 = .ok (.aload_n 0, 1) := by decide +kernel
theorem dX4_init_39 : decode cX4_init 39 = .ok (.new 18, 3) := by decide +kernel
theorem dX4_init_42 : decode cX4_init 42 = .ok (.dup, 1) := by decide +kernel
theorem dX4_init_43 : decode cX4_init 43 = .ok (.invokespecial 20, 3) := by decide +kernel
theorem dX4_init_46 : decode cX4_init 46 = .ok (.putfield 21, 3) := by decide +kernel
theorem dX4_init_49 : decode cX4_init 49 = .ok (.aload_n 0, 1) := by decide +kernel
theorem dX4_init_50 : decode cX4_init 50 = .ok (.new 25, 3) := by decide +kernel
theorem dX4_init_53 : decode cX4_init 53 = .ok (.dup, 1) := by decide +kernel
theorem dX4_init_54 : decode cX4_init 54 = .ok (.invokespecial 27, 3) := by decide +kernel
theorem dX4_init_57 : decode cX4_init 57 = .ok (.putfield 28, 3) := by decide +kernel
theorem dX4_init_60 : decode cX4_init 60 = .ok (.aload_n 0, 1) := by decide +kernel
theorem dX4_init_61 : decode cX4_init 61 = .ok (.new 32, 3) := by decide +kernel
theorem dX4_init_64 : decode cX4_init 64 = .ok (.dup, 1) := by decide +kernel
theorem dX4_init_65 : decode cX4_init 65 = .ok (.invokespecial 34, 3) := by decide +kernel
theorem dX4_init_68 : decode cX4_init 68 = .ok (.putfield 35, 3) := by decide +kernel
theorem dX4_init_71 : decode cX4_init 71 = .ok (.aload_n 0, 1) := by decide +kernel
theorem dX4_init_72 : decode cX4_init 72 = .ok (.new 32, 3) := by decide +kernel
theorem dX4_init_75 : decode cX4_init 75 = .ok (.dup, 1) := by decide +kernel
theorem dX4_init_76 : decode cX4_init 76 = .ok (.invokespecial 34, 3) := by decide +kernel
theorem dX4_init_79 : decode cX4_init 79 = .ok (.putfield 39, 3) := by decide +kernel
theorem dX4_init_82 : decode cX4_init 82 = .ok (.return_, 1) := by decide +kernel
theorem dX4_frontier_0 : decode cX4_frontier 0 = .ok (.iload_n 1, 1) := by decide +kernel
theorem dX4_frontier_1 : decode cX4_frontier 1 = .ok (.iload_n 2, 1) := by decide +kernel
theorem dX4_frontier_2 : decode cX4_frontier 2 = .ok (.invokestatic 42, 3) := by decide +kernel
theorem dX4_frontier_5 : decode cX4_frontier 5 = .ok (.istore 5, 2) := by decide +kernel
theorem dX4_frontier_7 : decode cX4_frontier 7 = .ok (.iload 5, 2) := by decide +kernel
theorem dX4_frontier_9 : decode cX4_frontier 9 = .ok (.ifCond .eq 10, 3) := by decide +kernel
theorem dX4_frontier_12 : decode cX4_frontier 12 = .ok (.aload_n 0, 1) := by decide +kernel
theorem dX4_frontier_13 : decode cX4_frontier 13 = .ok (.iload 5, 2) := by decide +kernel
theorem dX4_frontier_15 : decode cX4_frontier 15 = .ok (.invokevirtual 46, 3) := by decide +kernel
theorem dX4_frontier_18 : decode cX4_frontier 18 = .ok (.ireturn, 1) := by decide +kernel
theorem dX4_frontier_19 : decode cX4_frontier 19 = .ok (.aload_n 0, 1) := by decide +kernel
theorem dX4_frontier_20 : decode cX4_frontier 20 = .ok (.getfield 13, 3) := by decide +kernel
theorem dX4_frontier_23 : decode cX4_frontier 23 = .ok (.iload_n 1, 1) := by decide +kernel
theorem dX4_frontier_24 : decode cX4_frontier 24 = .ok (.aaload, 1) := by decide +kernel
theorem dX4_frontier_25 : decode cX4_frontier 25 = .ok (.astore 6, 2) := by decide +kernel
theorem dX4_frontier_27 : decode cX4_frontier 27 = .ok (.aload 6, 2) := by decide +kernel
theorem dX4_frontier_29 : decode cX4_frontier 29 = .ok (.iload_n 2, 1) := by decide +kernel
theorem dX4_frontier_30 : decode cX4_frontier 30 = .ok (.invokevirtual 50, 3) := by decide +kernel
theorem dX4_frontier_33 : decode cX4_frontier 33 = .ok (.istore 7, 2) := by decide +kernel
theorem dX4_frontier_35 : decode cX4_frontier 35 = .ok (.iload 7, 2) := by decide +kernel
theorem dX4_frontier_37 : decode cX4_frontier 37 = .ok (.ifCond .ne 11, 3) := by decide +kernel
theorem dX4_frontier_40 : decode cX4_frontier 40 = .ok (.iload 4, 2) := by decide +kernel
theorem dX4_frontier_42 : decode cX4_frontier 42 = .ok (.ifCond .ge 6, 3) := by decide +kernel
theorem dX4_frontier_45 : decode cX4_frontier 45 = .ok (.iconst 4, 1) := by decide +kernel
theorem dX4_frontier_46 : decode cX4_frontier 46 = .ok (.istore 7, 2) := by decide +kernel
theorem dX4_frontier_48 : decode cX4_frontier 48 = .ok (.iload 7, 2) := by decide +kernel
theorem dX4_frontier_50 : decode cX4_frontier 50 = .ok (.ifCond .ne 17, 3) := by decide +kernel
theorem dX4_frontier_53 : decode cX4_frontier 53 = .ok (.aload 6, 2) := by decide +kernel
theorem dX4_frontier_55 : decode cX4_frontier 55 = .ok (.iload_n 3, 1) := by decide +kernel
theorem dX4_frontier_56 : decode cX4_frontier 56 = .ok (.iload 4, 2) := by decide +kernel
theorem dX4_frontier_58 : decode cX4_frontier 58 = .ok (.invokevirtual 53, 3) := by decide +kernel
theorem dX4_frontier_61 : decode cX4_frontier 61 = .ok (.ifCond .ne 6, 3) := by decide +kernel
theorem dX4_frontier_64 : decode cX4_frontier 64 = .ok (.iconst 3, 1) := by decide +kernel
theorem dX4_frontier_65 : decode cX4_frontier 65 = .ok (.istore 7, 2) := by decide +kernel
theorem dX4_frontier_67 : decode cX4_frontier 67 = .ok (.iload 7, 2) := by decide +kernel
theorem dX4_frontier_69 : decode cX4_frontier 69 = .ok (.ifCond .eq 10, 3) := by decide +kernel
theorem dX4_frontier_72 : decode cX4_frontier 72 = .ok (.aload_n 0, 1) := by decide +kernel
theorem dX4_frontier_73 : decode cX4_frontier 73 = .ok (.iload 7, 2) := by decide +kernel
theorem dX4_frontier_75 : decode cX4_frontier 75 = .ok (.invokevirtual 57, 3) := by decide +kernel
theorem dX4_frontier_78 : decode cX4_frontier 78 = .ok (.ireturn, 1) := by decide +kernel
theorem dX4_frontier_79 : decode cX4_frontier 79 = .ok (.aload_n 0, 1) := by decide +kernel
theorem dX4_frontier_80 : decode cX4_frontier 80 = .ok (.iconst 0, 1) := by decide +kernel
theorem dX4_frontier_81 : decode cX4_frontier 81 = .ok (.putfield 60, 3) := by decide +kernel
theorem dX4_frontier_84 : decode cX4_frontier 84 = .ok (.aload_n 0, 1) := by decide +kernel
theorem dX4_frontier_85 : decode cX4_frontier 85 = .ok (.getfield 21, 3) := by decide +kernel
theorem dX4_frontier_88 : decode cX4_frontier 88 = .ok (.aload_n 0, 1) := by decide +kernel
theorem dX4_frontier_89 : decode cX4_frontier 89 = .ok (.getfield 39, 3) := by decide +kernel
theorem dX4_frontier_92 : decode cX4_frontier 92 = .ok (.aload 6, 2) := by decide +kernel
theorem dX4_frontier_94 : decode cX4_frontier 94 = .ok (.iload_n 3, 1) := by decide +kernel
theorem dX4_frontier_95 : decode cX4_frontier 95 = .ok (.iload 4, 2) := by decide +kernel
theorem dX4_frontier_97 : decode cX4_frontier 97 = .ok (.invokevirtual 64, 3) := by decide +kernel
theorem dX4_frontier_100 : decode cX4_frontier 100 = .ok (.ifCond .ne 14, 3) := by decide +kernel
theorem dX4_frontier_103 : decode cX4_frontier 103 = .ok (.bipush (-100), 2) := by decide +kernel
theorem dX4_frontier_105 : decode cX4_frontier 105 = .ok (.aload_n 0, 1) := by decide +kernel
theorem dX4_frontier_106 : decode cX4_frontier 106 = .ok (.getfield 21, 3) := by decide +kernel
theorem dX4_frontier_109 : decode cX4_frontier 109 = .ok (.invokevirtual 68, 3) := by decide +kernel
theorem dX4_frontier_112 : decode cX4_frontier 112 = .ok (.isub, 1) := by decide +kernel
theorem dX4_frontier_113 : decode cX4_frontier 113 = .ok (.ireturn, 1) := by decide +kernel
theorem dX4_frontier_114 : decode cX4_frontier 114 = .ok (.aload_n 0, 1) := by decide +kernel
theorem dX4_frontier_115 : decode cX4_frontier 115 = .ok (.getfield 39, 3) := by decide +kernel
theorem dX4_frontier_118 : decode cX4_frontier 118 = .ok (.astore 8, 2) := by decide +kernel
theorem dX4_frontier_120 : decode cX4_frontier 120 = .ok (.aload_n 0, 1) := by decide +kernel
theorem dX4_frontier_121 : decode cX4_frontier 121 = .ok (.aload_n 0, 1) := by decide +kernel
theorem dX4_frontier_122 : decode cX4_frontier 122 = .ok (.getfield 35, 3) := by decide +kernel
theorem dX4_frontier_125 : decode cX4_frontier 125 = .ok (.putfield 39, 3) := by decide +kernel
theorem dX4_frontier_128 : decode cX4_frontier 128 = .ok (.aload_n 0, 1) := by decide +kernel
theorem dX4_frontier_129 : decode cX4_frontier 129 = .ok (.aload 8, 2) := by decide +kernel
theorem dX4_frontier_131 : decode cX4_frontier 131 = .ok (.putfield 35, 3) := by decide +kernel
theorem dX4_frontier_134 : decode cX4_frontier 134 = .ok (.aload_n 0, 1) := by decide +kernel
theorem dX4_frontier_135 : decode cX4_frontier 135 = .ok (.getfield 35, 3) := by decide +kernel
theorem dX4_frontier_138 : decode cX4_frontier 138 = .ok (.getfield 72, 3) := by decide +kernel
theorem dX4_frontier_141 : decode cX4_frontier 141 = .ok (.ireturn, 1) := by decide +kernel
theorem dX4_ofPost_0 : decode cX4_ofPost 0 = .ok (.aload_n 0, 1) := by decide +kernel
theorem dX4_ofPost_1 : decode cX4_ofPost 1 = .ok (.getfield 35, 3) := by decide +kernel
theorem dX4_ofPost_4 : decode cX4_ofPost 4 = .ok (.iload_n 1, 1) := by decide +kernel
theorem dX4_ofPost_5 : decode cX4_ofPost 5 = .ok (.invokevirtual 75, 3) := by decide +kernel
theorem dX4_ofPost_8 : decode cX4_ofPost 8 = .ok (.ifCond .ne 5, 3) := by decide +kernel
theorem dX4_ofPost_11 : decode cX4_ofPost 11 = .ok (.iconst (-1), 1) := by decide +kernel
theorem dX4_ofPost_12 : decode cX4_ofPost 12 = .ok (.ireturn, 1) := by decide +kernel
theorem dX4_ofPost_13 : decode cX4_ofPost 13 = .ok (.iload_n 2, 1) := by decide +kernel
theorem dX4_ofPost_14 : decode cX4_ofPost 14 = .ok (.lookupswitch 46 #[(0, 26), (1, 36)], 26) := by decide +kernel
theorem dX4_ofPost_40 : decode cX4_ofPost 40 = .ok (.aload_n 0, 1) := by decide +kernel
theorem dX4_ofPost_41 : decode cX4_ofPost 41 = .ok (.getfield 35, 3) := by decide +kernel
theorem dX4_ofPost_44 : decode cX4_ofPost 44 = .ok (.getfield 79, 3) := by decide +kernel
theorem dX4_ofPost_47 : decode cX4_ofPost 47 = .ok (.iload_n 1, 1) := by decide +kernel
theorem dX4_ofPost_48 : decode cX4_ofPost 48 = .ok (.iaload, 1) := by decide +kernel
theorem dX4_ofPost_49 : decode cX4_ofPost 49 = .ok (.ireturn, 1) := by decide +kernel
theorem dX4_ofPost_50 : decode cX4_ofPost 50 = .ok (.aload_n 0, 1) := by decide +kernel
theorem dX4_ofPost_51 : decode cX4_ofPost 51 = .ok (.getfield 35, 3) := by decide +kernel
theorem dX4_ofPost_54 : decode cX4_ofPost 54 = .ok (.getfield 83, 3) := by decide +kernel
theorem dX4_ofPost_57 : decode cX4_ofPost 57 = .ok (.iload_n 1, 1) := by decide +kernel
theorem dX4_ofPost_58 : decode cX4_ofPost 58 = .ok (.iaload, 1) := by decide +kernel
theorem dX4_ofPost_59 : decode cX4_ofPost 59 = .ok (.ireturn, 1) := by decide +kernel
theorem dX4_ofPost_60 : decode cX4_ofPost 60 = .ok (.bipush (-2), 2) := by decide +kernel
theorem dX4_ofPost_62 : decode cX4_ofPost 62 = .ok (.ireturn, 1) := by decide +kernel
theorem dX4_ofSilence_0 : decode cX4_ofSilence 0 = .ok (.aload_n 0, 1) := by decide +kernel
theorem dX4_ofSilence_1 : decode cX4_ofSilence 1 = .ok (.getfield 35, 3) := by decide +kernel
theorem dX4_ofSilence_4 : decode cX4_ofSilence 4 = .ok (.iload_n 1, 1) := by decide +kernel
theorem dX4_ofSilence_5 : decode cX4_ofSilence 5 = .ok (.invokevirtual 86, 3) := by decide +kernel
theorem dX4_ofSilence_8 : decode cX4_ofSilence 8 = .ok (.ifCond .ne 5, 3) := by decide +kernel
theorem dX4_ofSilence_11 : decode cX4_ofSilence 11 = .ok (.iconst (-1), 1) := by decide +kernel
theorem dX4_ofSilence_12 : decode cX4_ofSilence 12 = .ok (.ireturn, 1) := by decide +kernel
theorem dX4_ofSilence_13 : decode cX4_ofSilence 13 = .ok (.iload_n 2, 1) := by decide +kernel
theorem dX4_ofSilence_14 : decode cX4_ofSilence 14 = .ok (.tableswitch 138 0 7 #[46, 56, 66, 76, 85, 94, 104, 121], 46) := by decide +kernel
theorem dX4_ofSilence_60 : decode cX4_ofSilence 60 = .ok (.aload_n 0, 1) := by decide +kernel
theorem dX4_ofSilence_61 : decode cX4_ofSilence 61 = .ok (.getfield 35, 3) := by decide +kernel
theorem dX4_ofSilence_64 : decode cX4_ofSilence 64 = .ok (.getfield 89, 3) := by decide +kernel
theorem dX4_ofSilence_67 : decode cX4_ofSilence 67 = .ok (.iload_n 1, 1) := by decide +kernel
theorem dX4_ofSilence_68 : decode cX4_ofSilence 68 = .ok (.iaload, 1) := by decide +kernel
theorem dX4_ofSilence_69 : decode cX4_ofSilence 69 = .ok (.ireturn, 1) := by decide +kernel
theorem dX4_ofSilence_70 : decode cX4_ofSilence 70 = .ok (.aload_n 0, 1) := by decide +kernel
theorem dX4_ofSilence_71 : decode cX4_ofSilence 71 = .ok (.getfield 35, 3) := by decide +kernel
theorem dX4_ofSilence_74 : decode cX4_ofSilence 74 = .ok (.getfield 92, 3) := by decide +kernel
theorem dX4_ofSilence_77 : decode cX4_ofSilence 77 = .ok (.iload_n 1, 1) := by decide +kernel
theorem dX4_ofSilence_78 : decode cX4_ofSilence 78 = .ok (.iaload, 1) := by decide +kernel
theorem dX4_ofSilence_79 : decode cX4_ofSilence 79 = .ok (.ireturn, 1) := by decide +kernel
theorem dX4_ofSilence_80 : decode cX4_ofSilence 80 = .ok (.aload_n 0, 1) := by decide +kernel
theorem dX4_ofSilence_81 : decode cX4_ofSilence 81 = .ok (.getfield 35, 3) := by decide +kernel
theorem dX4_ofSilence_84 : decode cX4_ofSilence 84 = .ok (.getfield 95, 3) := by decide +kernel
theorem dX4_ofSilence_87 : decode cX4_ofSilence 87 = .ok (.iload_n 1, 1) := by decide +kernel
theorem dX4_ofSilence_88 : decode cX4_ofSilence 88 = .ok (.iaload, 1) := by decide +kernel
theorem dX4_ofSilence_89 : decode cX4_ofSilence 89 = .ok (.ireturn, 1) := by decide +kernel
theorem dX4_ofSilence_90 : decode cX4_ofSilence 90 = .ok (.aload_n 0, 1) := by decide +kernel
theorem dX4_ofSilence_91 : decode cX4_ofSilence 91 = .ok (.getfield 35, 3) := by decide +kernel
theorem dX4_ofSilence_94 : decode cX4_ofSilence 94 = .ok (.iload_n 1, 1) := by decide +kernel
theorem dX4_ofSilence_95 : decode cX4_ofSilence 95 = .ok (.invokevirtual 98, 3) := by decide +kernel
theorem dX4_ofSilence_98 : decode cX4_ofSilence 98 = .ok (.ireturn, 1) := by decide +kernel
theorem dX4_ofSilence_99 : decode cX4_ofSilence 99 = .ok (.aload_n 0, 1) := by decide +kernel
theorem dX4_ofSilence_100 : decode cX4_ofSilence 100 = .ok (.getfield 35, 3) := by decide +kernel
theorem dX4_ofSilence_103 : decode cX4_ofSilence 103 = .ok (.iload_n 1, 1) := by decide +kernel
theorem dX4_ofSilence_104 : decode cX4_ofSilence 104 = .ok (.invokevirtual 101, 3) := by decide +kernel
theorem dX4_ofSilence_107 : decode cX4_ofSilence 107 = .ok (.ireturn, 1) := by decide +kernel
theorem dX4_ofSilence_108 : decode cX4_ofSilence 108 = .ok (.aload_n 0, 1) := by decide +kernel
theorem dX4_ofSilence_109 : decode cX4_ofSilence 109 = .ok (.getfield 35, 3) := by decide +kernel
theorem dX4_ofSilence_112 : decode cX4_ofSilence 112 = .ok (.getfield 104, 3) := by decide +kernel
theorem dX4_ofSilence_115 : decode cX4_ofSilence 115 = .ok (.iload_n 1, 1) := by decide +kernel
theorem dX4_ofSilence_116 : decode cX4_ofSilence 116 = .ok (.iaload, 1) := by decide +kernel
theorem dX4_ofSilence_117 : decode cX4_ofSilence 117 = .ok (.ireturn, 1) := by decide +kernel
theorem dX4_ofSilence_118 : decode cX4_ofSilence 118 = .ok (.aload_n 0, 1) := by decide +kernel
theorem dX4_ofSilence_119 : decode cX4_ofSilence 119 = .ok (.getfield 35, 3) := by decide +kernel
theorem dX4_ofSilence_122 : decode cX4_ofSilence 122 = .ok (.iload_n 1, 1) := by decide +kernel
theorem dX4_ofSilence_123 : decode cX4_ofSilence 123 = .ok (.invokevirtual 107, 3) := by decide +kernel
theorem dX4_ofSilence_126 : decode cX4_ofSilence 126 = .ok (.ifCond .eq 7, 3) := by decide +kernel
theorem dX4_ofSilence_129 : decode cX4_ofSilence 129 = .ok (.iconst 1, 1) := by decide +kernel
theorem dX4_ofSilence_130 : decode cX4_ofSilence 130 = .ok (.goto 4, 3) := by decide +kernel
theorem dX4_ofSilence_133 : decode cX4_ofSilence 133 = .ok (.iconst 0, 1) := by decide +kernel
theorem dX4_ofSilence_134 : decode cX4_ofSilence 134 = .ok (.ireturn, 1) := by decide +kernel
theorem dX4_ofSilence_135 : decode cX4_ofSilence 135 = .ok (.aload_n 0, 1) := by decide +kernel
theorem dX4_ofSilence_136 : decode cX4_ofSilence 136 = .ok (.getfield 35, 3) := by decide +kernel
theorem dX4_ofSilence_139 : decode cX4_ofSilence 139 = .ok (.iload_n 1, 1) := by decide +kernel
theorem dX4_ofSilence_140 : decode cX4_ofSilence 140 = .ok (.invokevirtual 110, 3) := by decide +kernel
theorem dX4_ofSilence_143 : decode cX4_ofSilence 143 = .ok (.ifCond .eq 7, 3) := by decide +kernel
theorem dX4_ofSilence_146 : decode cX4_ofSilence 146 = .ok (.iconst 1, 1) := by decide +kernel
theorem dX4_ofSilence_147 : decode cX4_ofSilence 147 = .ok (.goto 4, 3) := by decide +kernel
theorem dX4_ofSilence_150 : decode cX4_ofSilence 150 = .ok (.iconst 0, 1) := by decide +kernel
theorem dX4_ofSilence_151 : decode cX4_ofSilence 151 = .ok (.ireturn, 1) := by decide +kernel
theorem dX4_ofSilence_152 : decode cX4_ofSilence 152 = .ok (.bipush (-2), 2) := by decide +kernel
theorem dX4_ofSilence_154 : decode cX4_ofSilence 154 = .ok (.ireturn, 1) := by decide +kernel
theorem dX4_free_0 : decode cX4_free 0 = .ok (.iload_n 1, 1) := by decide +kernel
theorem dX4_free_1 : decode cX4_free 1 = .ok (.iconst 0, 1) := by decide +kernel
theorem dX4_free_2 : decode cX4_free 2 = .ok (.bipush 9, 2) := by decide +kernel
theorem dX4_free_4 : decode cX4_free 4 = .ok (.invokestatic 113, 3) := by decide +kernel
theorem dX4_free_7 : decode cX4_free 7 = .ok (.ifCond .ne 6, 3) := by decide +kernel
theorem dX4_free_10 : decode cX4_free 10 = .ok (.bipush (-2), 2) := by decide +kernel
theorem dX4_free_12 : decode cX4_free 12 = .ok (.ireturn, 1) := by decide +kernel
theorem dX4_free_13 : decode cX4_free 13 = .ok (.aload_n 0, 1) := by decide +kernel
theorem dX4_free_14 : decode cX4_free 14 = .ok (.getfield 35, 3) := by decide +kernel
theorem dX4_free_17 : decode cX4_free 17 = .ok (.invokevirtual 117, 3) := by decide +kernel
theorem dX4_free_20 : decode cX4_free 20 = .ok (.ifCond .eq 6, 3) := by decide +kernel
theorem dX4_free_23 : decode cX4_free 23 = .ok (.bipush (-3), 2) := by decide +kernel
theorem dX4_free_25 : decode cX4_free 25 = .ok (.ireturn, 1) := by decide +kernel
theorem dX4_free_26 : decode cX4_free 26 = .ok (.aload_n 0, 1) := by decide +kernel
theorem dX4_free_27 : decode cX4_free 27 = .ok (.getfield 35, 3) := by decide +kernel
theorem dX4_free_30 : decode cX4_free 30 = .ok (.getfield 121, 3) := by decide +kernel
theorem dX4_free_33 : decode cX4_free 33 = .ok (.istore_n 2, 1) := by decide +kernel
theorem dX4_free_34 : decode cX4_free 34 = .ok (.aload_n 0, 1) := by decide +kernel
theorem dX4_free_35 : decode cX4_free 35 = .ok (.getfield 35, 3) := by decide +kernel
theorem dX4_free_38 : decode cX4_free 38 = .ok (.iload_n 1, 1) := by decide +kernel
theorem dX4_free_39 : decode cX4_free 39 = .ok (.putfield 121, 3) := by decide +kernel
theorem dX4_free_42 : decode cX4_free 42 = .ok (.iload_n 2, 1) := by decide +kernel
theorem dX4_free_43 : decode cX4_free 43 = .ok (.ireturn, 1) := by decide +kernel
theorem dX4_law_0 : decode cX4_law 0 = .ok (.iload_n 1, 1) := by decide +kernel
theorem dX4_law_1 : decode cX4_law 1 = .ok (.iconst 0, 1) := by decide +kernel
theorem dX4_law_2 : decode cX4_law 2 = .ok (.bipush 7, 2) := by decide +kernel
theorem dX4_law_4 : decode cX4_law 4 = .ok (.invokestatic 113, 3) := by decide +kernel
theorem dX4_law_7 : decode cX4_law 7 = .ok (.ifCond .ne 6, 3) := by decide +kernel
theorem dX4_law_10 : decode cX4_law 10 = .ok (.bipush (-2), 2) := by decide +kernel
theorem dX4_law_12 : decode cX4_law 12 = .ok (.ireturn, 1) := by decide +kernel
theorem dX4_law_13 : decode cX4_law 13 = .ok (.aload_n 0, 1) := by decide +kernel
theorem dX4_law_14 : decode cX4_law 14 = .ok (.getfield 35, 3) := by decide +kernel
theorem dX4_law_17 : decode cX4_law 17 = .ok (.invokevirtual 117, 3) := by decide +kernel
theorem dX4_law_20 : decode cX4_law 20 = .ok (.ifCond .eq 6, 3) := by decide +kernel
theorem dX4_law_23 : decode cX4_law 23 = .ok (.bipush (-3), 2) := by decide +kernel
theorem dX4_law_25 : decode cX4_law 25 = .ok (.ireturn, 1) := by decide +kernel
theorem dX4_law_26 : decode cX4_law 26 = .ok (.aload_n 0, 1) := by decide +kernel
theorem dX4_law_27 : decode cX4_law 27 = .ok (.getfield 35, 3) := by decide +kernel
theorem dX4_law_30 : decode cX4_law 30 = .ok (.getfield 124, 3) := by decide +kernel
theorem dX4_law_33 : decode cX4_law 33 = .ok (.istore_n 2, 1) := by decide +kernel
theorem dX4_law_34 : decode cX4_law 34 = .ok (.aload_n 0, 1) := by decide +kernel
theorem dX4_law_35 : decode cX4_law 35 = .ok (.getfield 35, 3) := by decide +kernel
theorem dX4_law_38 : decode cX4_law 38 = .ok (.iload_n 1, 1) := by decide +kernel
theorem dX4_law_39 : decode cX4_law 39 = .ok (.putfield 124, 3) := by decide +kernel
theorem dX4_law_42 : decode cX4_law 42 = .ok (.iload_n 2, 1) := by decide +kernel
theorem dX4_law_43 : decode cX4_law 43 = .ok (.ireturn, 1) := by decide +kernel
theorem dX4_carry_0 : decode cX4_carry 0 = .ok (.aload_n 0, 1) := by decide +kernel
theorem dX4_carry_1 : decode cX4_carry 1 = .ok (.getfield 35, 3) := by decide +kernel
theorem dX4_carry_4 : decode cX4_carry 4 = .ok (.iload_n 1, 1) := by decide +kernel
theorem dX4_carry_5 : decode cX4_carry 5 = .ok (.invokevirtual 86, 3) := by decide +kernel
theorem dX4_carry_8 : decode cX4_carry 8 = .ok (.ifCond .eq 12, 3) := by decide +kernel
theorem dX4_carry_11 : decode cX4_carry 11 = .ok (.iload_n 2, 1) := by decide +kernel
theorem dX4_carry_12 : decode cX4_carry 12 = .ok (.iconst 0, 1) := by decide +kernel
theorem dX4_carry_13 : decode cX4_carry 13 = .ok (.iconst 2, 1) := by decide +kernel
theorem dX4_carry_14 : decode cX4_carry 14 = .ok (.invokestatic 113, 3) := by decide +kernel
theorem dX4_carry_17 : decode cX4_carry 17 = .ok (.ifCond .ne 5, 3) := by decide +kernel
theorem dX4_carry_20 : decode cX4_carry 20 = .ok (.iconst (-1), 1) := by decide +kernel
theorem dX4_carry_21 : decode cX4_carry 21 = .ok (.ireturn, 1) := by decide +kernel
theorem dX4_carry_22 : decode cX4_carry 22 = .ok (.aload_n 0, 1) := by decide +kernel
theorem dX4_carry_23 : decode cX4_carry 23 = .ok (.getfield 35, 3) := by decide +kernel
theorem dX4_carry_26 : decode cX4_carry 26 = .ok (.getfield 104, 3) := by decide +kernel
theorem dX4_carry_29 : decode cX4_carry 29 = .ok (.iload_n 1, 1) := by decide +kernel
theorem dX4_carry_30 : decode cX4_carry 30 = .ok (.iaload, 1) := by decide +kernel
theorem dX4_carry_31 : decode cX4_carry 31 = .ok (.istore_n 3, 1) := by decide +kernel
theorem dX4_carry_32 : decode cX4_carry 32 = .ok (.aload_n 0, 1) := by decide +kernel
theorem dX4_carry_33 : decode cX4_carry 33 = .ok (.getfield 35, 3) := by decide +kernel
theorem dX4_carry_36 : decode cX4_carry 36 = .ok (.getfield 104, 3) := by decide +kernel
theorem dX4_carry_39 : decode cX4_carry 39 = .ok (.iload_n 1, 1) := by decide +kernel
theorem dX4_carry_40 : decode cX4_carry 40 = .ok (.iload_n 2, 1) := by decide +kernel
theorem dX4_carry_41 : decode cX4_carry 41 = .ok (.iastore, 1) := by decide +kernel
theorem dX4_carry_42 : decode cX4_carry 42 = .ok (.iload_n 3, 1) := by decide +kernel
theorem dX4_carry_43 : decode cX4_carry 43 = .ok (.ireturn, 1) := by decide +kernel
theorem dX4_declare_0 : decode cX4_declare 0 = .ok (.aload_n 0, 1) := by decide +kernel
theorem dX4_declare_1 : decode cX4_declare 1 = .ok (.getfield 35, 3) := by decide +kernel
theorem dX4_declare_4 : decode cX4_declare 4 = .ok (.iload_n 1, 1) := by decide +kernel
theorem dX4_declare_5 : decode cX4_declare 5 = .ok (.invokevirtual 86, 3) := by decide +kernel
theorem dX4_declare_8 : decode cX4_declare 8 = .ok (.ifCond .ne 5, 3) := by decide +kernel
theorem dX4_declare_11 : decode cX4_declare 11 = .ok (.iconst (-1), 1) := by decide +kernel
theorem dX4_declare_12 : decode cX4_declare 12 = .ok (.ireturn, 1) := by decide +kernel
theorem dX4_declare_13 : decode cX4_declare 13 = .ok (.aload_n 0, 1) := by decide +kernel
theorem dX4_declare_14 : decode cX4_declare 14 = .ok (.getfield 35, 3) := by decide +kernel
theorem dX4_declare_17 : decode cX4_declare 17 = .ok (.iload_n 1, 1) := by decide +kernel
theorem dX4_declare_18 : decode cX4_declare 18 = .ok (.invokevirtual 107, 3) := by decide +kernel
theorem dX4_declare_21 : decode cX4_declare 21 = .ok (.iload_n 2, 1) := by decide +kernel
theorem dX4_declare_22 : decode cX4_declare 22 = .ok (.if_icmp .ne 5, 3) := by decide +kernel
theorem dX4_declare_25 : decode cX4_declare 25 = .ok (.iconst 0, 1) := by decide +kernel
theorem dX4_declare_26 : decode cX4_declare 26 = .ok (.ireturn, 1) := by decide +kernel
theorem dX4_declare_27 : decode cX4_declare 27 = .ok (.aload_n 0, 1) := by decide +kernel
theorem dX4_declare_28 : decode cX4_declare 28 = .ok (.getfield 35, 3) := by decide +kernel
theorem dX4_declare_31 : decode cX4_declare 31 = .ok (.dup, 1) := by decide +kernel
theorem dX4_declare_32 : decode cX4_declare 32 = .ok (.getfield 127, 3) := by decide +kernel
theorem dX4_declare_35 : decode cX4_declare 35 = .ok (.iconst 1, 1) := by decide +kernel
theorem dX4_declare_36 : decode cX4_declare 36 = .ok (.iload_n 1, 1) := by decide +kernel
theorem dX4_declare_37 : decode cX4_declare 37 = .ok (.ishl, 1) := by decide +kernel
theorem dX4_declare_38 : decode cX4_declare 38 = .ok (.ixor, 1) := by decide +kernel
theorem dX4_declare_39 : decode cX4_declare 39 = .ok (.putfield 127, 3) := by decide +kernel
theorem dX4_declare_42 : decode cX4_declare 42 = .ok (.iconst 1, 1) := by decide +kernel
theorem dX4_declare_43 : decode cX4_declare 43 = .ok (.ireturn, 1) := by decide +kernel
theorem dX4_hum_0 : decode cX4_hum 0 = .ok (.iload_n 1, 1) := by decide +kernel
theorem dX4_hum_1 : decode cX4_hum 1 = .ok (.iconst 0, 1) := by decide +kernel
theorem dX4_hum_2 : decode cX4_hum 2 = .ok (.iconst 2, 1) := by decide +kernel
theorem dX4_hum_3 : decode cX4_hum 3 = .ok (.invokestatic 113, 3) := by decide +kernel
theorem dX4_hum_6 : decode cX4_hum 6 = .ok (.ifCond .ne 5, 3) := by decide +kernel
theorem dX4_hum_9 : decode cX4_hum 9 = .ok (.iconst (-1), 1) := by decide +kernel
theorem dX4_hum_10 : decode cX4_hum 10 = .ok (.ireturn, 1) := by decide +kernel
theorem dX4_hum_11 : decode cX4_hum 11 = .ok (.iload_n 2, 1) := by decide +kernel
theorem dX4_hum_12 : decode cX4_hum 12 = .ok (.iconst 0, 1) := by decide +kernel
theorem dX4_hum_13 : decode cX4_hum 13 = .ok (.bipush 9, 2) := by decide +kernel
theorem dX4_hum_15 : decode cX4_hum 15 = .ok (.invokestatic 113, 3) := by decide +kernel
theorem dX4_hum_18 : decode cX4_hum 18 = .ok (.ifCond .ne 6, 3) := by decide +kernel
theorem dX4_hum_21 : decode cX4_hum 21 = .ok (.bipush (-2), 2) := by decide +kernel
theorem dX4_hum_23 : decode cX4_hum 23 = .ok (.ireturn, 1) := by decide +kernel
theorem dX4_hum_24 : decode cX4_hum 24 = .ok (.aload_n 0, 1) := by decide +kernel
theorem dX4_hum_25 : decode cX4_hum 25 = .ok (.getfield 35, 3) := by decide +kernel
theorem dX4_hum_28 : decode cX4_hum 28 = .ok (.invokevirtual 117, 3) := by decide +kernel
theorem dX4_hum_31 : decode cX4_hum 31 = .ok (.ifCond .eq 6, 3) := by decide +kernel
theorem dX4_hum_34 : decode cX4_hum 34 = .ok (.bipush (-3), 2) := by decide +kernel
theorem dX4_hum_36 : decode cX4_hum 36 = .ok (.ireturn, 1) := by decide +kernel
theorem dX4_hum_37 : decode cX4_hum 37 = .ok (.aload_n 0, 1) := by decide +kernel
theorem dX4_hum_38 : decode cX4_hum 38 = .ok (.getfield 35, 3) := by decide +kernel
theorem dX4_hum_41 : decode cX4_hum 41 = .ok (.getfield 130, 3) := by decide +kernel
theorem dX4_hum_44 : decode cX4_hum 44 = .ok (.iload_n 1, 1) := by decide +kernel
theorem dX4_hum_45 : decode cX4_hum 45 = .ok (.iaload, 1) := by decide +kernel
theorem dX4_hum_46 : decode cX4_hum 46 = .ok (.istore_n 3, 1) := by decide +kernel
theorem dX4_hum_47 : decode cX4_hum 47 = .ok (.aload_n 0, 1) := by decide +kernel
theorem dX4_hum_48 : decode cX4_hum 48 = .ok (.getfield 35, 3) := by decide +kernel
theorem dX4_hum_51 : decode cX4_hum 51 = .ok (.getfield 130, 3) := by decide +kernel
theorem dX4_hum_54 : decode cX4_hum 54 = .ok (.iload_n 1, 1) := by decide +kernel
theorem dX4_hum_55 : decode cX4_hum 55 = .ok (.iload_n 2, 1) := by decide +kernel
theorem dX4_hum_56 : decode cX4_hum 56 = .ok (.iastore, 1) := by decide +kernel
theorem dX4_hum_57 : decode cX4_hum 57 = .ok (.iload_n 3, 1) := by decide +kernel
theorem dX4_hum_58 : decode cX4_hum 58 = .ok (.ireturn, 1) := by decide +kernel
theorem dX4_duty_0 : decode cX4_duty 0 = .ok (.aload_n 0, 1) := by decide +kernel
theorem dX4_duty_1 : decode cX4_duty 1 = .ok (.getfield 35, 3) := by decide +kernel
theorem dX4_duty_4 : decode cX4_duty 4 = .ok (.iload_n 1, 1) := by decide +kernel
theorem dX4_duty_5 : decode cX4_duty 5 = .ok (.invokevirtual 75, 3) := by decide +kernel
theorem dX4_duty_8 : decode cX4_duty 8 = .ok (.ifCond .ne 5, 3) := by decide +kernel
theorem dX4_duty_11 : decode cX4_duty 11 = .ok (.iconst (-1), 1) := by decide +kernel
theorem dX4_duty_12 : decode cX4_duty 12 = .ok (.ireturn, 1) := by decide +kernel
theorem dX4_duty_13 : decode cX4_duty 13 = .ok (.aload_n 0, 1) := by decide +kernel
theorem dX4_duty_14 : decode cX4_duty 14 = .ok (.getfield 35, 3) := by decide +kernel
theorem dX4_duty_17 : decode cX4_duty 17 = .ok (.iload_n 1, 1) := by decide +kernel
theorem dX4_duty_18 : decode cX4_duty 18 = .ok (.invokevirtual 133, 3) := by decide +kernel
theorem dX4_duty_21 : decode cX4_duty 21 = .ok (.ireturn, 1) := by decide +kernel
theorem dX4_clear_0 : decode cX4_clear 0 = .ok (.aload_n 0, 1) := by decide +kernel
theorem dX4_clear_1 : decode cX4_clear 1 = .ok (.getfield 35, 3) := by decide +kernel
theorem dX4_clear_4 : decode cX4_clear 4 = .ok (.iload_n 1, 1) := by decide +kernel
theorem dX4_clear_5 : decode cX4_clear 5 = .ok (.invokevirtual 75, 3) := by decide +kernel
theorem dX4_clear_8 : decode cX4_clear 8 = .ok (.ifCond .eq 12, 3) := by decide +kernel
theorem dX4_clear_11 : decode cX4_clear 11 = .ok (.iload_n 2, 1) := by decide +kernel
theorem dX4_clear_12 : decode cX4_clear 12 = .ok (.iconst 0, 1) := by decide +kernel
theorem dX4_clear_13 : decode cX4_clear 13 = .ok (.iconst 1, 1) := by decide +kernel
theorem dX4_clear_14 : decode cX4_clear 14 = .ok (.invokestatic 113, 3) := by decide +kernel
theorem dX4_clear_17 : decode cX4_clear 17 = .ok (.ifCond .ne 7, 3) := by decide +kernel
theorem dX4_clear_20 : decode cX4_clear 20 = .ok (.ldc2_w 136, 3) := by decide +kernel
theorem dX4_clear_23 : decode cX4_clear 23 = .ok (.lreturn, 1) := by decide +kernel
theorem dX4_clear_24 : decode cX4_clear 24 = .ok (.lconst 1, 1) := by decide +kernel
theorem dX4_clear_25 : decode cX4_clear 25 = .ok (.lstore_n 3, 1) := by decide +kernel
theorem dX4_clear_26 : decode cX4_clear 26 = .ok (.lconst 1, 1) := by decide +kernel
theorem dX4_clear_27 : decode cX4_clear 27 = .ok (.lstore 5, 2) := by decide +kernel
theorem dX4_clear_29 : decode cX4_clear 29 = .ok (.iconst 0, 1) := by decide +kernel
theorem dX4_clear_30 : decode cX4_clear 30 = .ok (.istore 7, 2) := by decide +kernel
theorem dX4_clear_32 : decode cX4_clear 32 = .ok (.iload 7, 2) := by decide +kernel
theorem dX4_clear_34 : decode cX4_clear 34 = .ok (.aload_n 0, 1) := by decide +kernel
theorem dX4_clear_35 : decode cX4_clear 35 = .ok (.getfield 35, 3) := by decide +kernel
theorem dX4_clear_38 : decode cX4_clear 38 = .ok (.getfield 72, 3) := by decide +kernel
theorem dX4_clear_41 : decode cX4_clear 41 = .ok (.if_icmp .ge 34, 3) := by decide +kernel
theorem dX4_clear_44 : decode cX4_clear 44 = .ok (.lload_n 3, 1) := by decide +kernel
theorem dX4_clear_45 : decode cX4_clear 45 = .ok (.bipush 10, 2) := by decide +kernel
theorem dX4_clear_47 : decode cX4_clear 47 = .ok (.aload_n 0, 1) := by decide +kernel
theorem dX4_clear_48 : decode cX4_clear 48 = .ok (.getfield 35, 3) := by decide +kernel
theorem dX4_clear_51 : decode cX4_clear 51 = .ok (.iload 7, 2) := by decide +kernel
theorem dX4_clear_53 : decode cX4_clear 53 = .ok (.iload_n 1, 1) := by decide +kernel
theorem dX4_clear_54 : decode cX4_clear 54 = .ok (.invokevirtual 138, 3) := by decide +kernel
theorem dX4_clear_57 : decode cX4_clear 57 = .ok (.isub, 1) := by decide +kernel
theorem dX4_clear_58 : decode cX4_clear 58 = .ok (.i2l, 1) := by decide +kernel
theorem dX4_clear_59 : decode cX4_clear 59 = .ok (.lmul, 1) := by decide +kernel
theorem dX4_clear_60 : decode cX4_clear 60 = .ok (.lstore_n 3, 1) := by decide +kernel
theorem dX4_clear_61 : decode cX4_clear 61 = .ok (.lload 5, 2) := by decide +kernel
theorem dX4_clear_63 : decode cX4_clear 63 = .ok (.ldc2_w 141, 3) := by decide +kernel
theorem dX4_clear_66 : decode cX4_clear 66 = .ok (.lmul, 1) := by decide +kernel
theorem dX4_clear_67 : decode cX4_clear 67 = .ok (.lstore 5, 2) := by decide +kernel
theorem dX4_clear_69 : decode cX4_clear 69 = .ok (.iinc 7 1, 3) := by decide +kernel
theorem dX4_clear_72 : decode cX4_clear 72 = .ok (.goto (-40), 3) := by decide +kernel
theorem dX4_clear_75 : decode cX4_clear 75 = .ok (.lload_n 3, 1) := by decide +kernel
theorem dX4_clear_76 : decode cX4_clear 76 = .ok (.lload 5, 2) := by decide +kernel
theorem dX4_clear_78 : decode cX4_clear 78 = .ok (.iload_n 2, 1) := by decide +kernel
theorem dX4_clear_79 : decode cX4_clear 79 = .ok (.invokestatic 143, 3) := by decide +kernel
theorem dX4_clear_82 : decode cX4_clear 82 = .ok (.lreturn, 1) := by decide +kernel
theorem dX4_cost_0 : decode cX4_cost 0 = .ok (.iload 5, 2) := by decide +kernel
theorem dX4_cost_2 : decode cX4_cost 2 = .ok (.iconst 0, 1) := by decide +kernel
theorem dX4_cost_3 : decode cX4_cost 3 = .ok (.iconst 1, 1) := by decide +kernel
theorem dX4_cost_4 : decode cX4_cost 4 = .ok (.invokestatic 113, 3) := by decide +kernel
theorem dX4_cost_7 : decode cX4_cost 7 = .ok (.ifCond .ne 8, 3) := by decide +kernel
theorem dX4_cost_10 : decode cX4_cost 10 = .ok (.aload_n 0, 1) := by decide +kernel
theorem dX4_cost_11 : decode cX4_cost 11 = .ok (.invokevirtual 147, 3) := by decide +kernel
theorem dX4_cost_14 : decode cX4_cost 14 = .ok (.lreturn, 1) := by decide +kernel
theorem dX4_cost_15 : decode cX4_cost 15 = .ok (.aload_n 0, 1) := by decide +kernel
theorem dX4_cost_16 : decode cX4_cost 16 = .ok (.iload_n 1, 1) := by decide +kernel
theorem dX4_cost_17 : decode cX4_cost 17 = .ok (.iload_n 2, 1) := by decide +kernel
theorem dX4_cost_18 : decode cX4_cost 18 = .ok (.iload_n 3, 1) := by decide +kernel
theorem dX4_cost_19 : decode cX4_cost 19 = .ok (.iload 4, 2) := by decide +kernel
theorem dX4_cost_21 : decode cX4_cost 21 = .ok (.invokevirtual 151, 3) := by decide +kernel
theorem dX4_cost_24 : decode cX4_cost 24 = .ok (.ifCond .ge 7, 3) := by decide +kernel
theorem dX4_cost_27 : decode cX4_cost 27 = .ok (.ldc2_w 136, 3) := by decide +kernel
theorem dX4_cost_30 : decode cX4_cost 30 = .ok (.lreturn, 1) := by decide +kernel
theorem dX4_cost_31 : decode cX4_cost 31 = .ok (.aload_n 0, 1) := by decide +kernel
theorem dX4_cost_32 : decode cX4_cost 32 = .ok (.getfield 28, 3) := by decide +kernel
theorem dX4_cost_35 : decode cX4_cost 35 = .ok (.aload_n 0, 1) := by decide +kernel
theorem dX4_cost_36 : decode cX4_cost 36 = .ok (.getfield 35, 3) := by decide +kernel
theorem dX4_cost_39 : decode cX4_cost 39 = .ok (.invokevirtual 155, 3) := by decide +kernel
theorem dX4_cost_42 : decode cX4_cost 42 = .ok (.ldc2_w 159, 3) := by decide +kernel
theorem dX4_cost_45 : decode cX4_cost 45 = .ok (.iload 5, 2) := by decide +kernel
theorem dX4_cost_47 : decode cX4_cost 47 = .ok (.invokestatic 143, 3) := by decide +kernel
theorem dX4_cost_50 : decode cX4_cost 50 = .ok (.lreturn, 1) := by decide +kernel
theorem dX4_say_0 : decode cX4_say 0 = .ok (.aload_n 0, 1) := by decide +kernel
theorem dX4_say_1 : decode cX4_say 1 = .ok (.iload_n 1, 1) := by decide +kernel
theorem dX4_say_2 : decode cX4_say 2 = .ok (.iload_n 2, 1) := by decide +kernel
theorem dX4_say_3 : decode cX4_say 3 = .ok (.iload_n 3, 1) := by decide +kernel
theorem dX4_say_4 : decode cX4_say 4 = .ok (.iload 4, 2) := by decide +kernel
theorem dX4_say_6 : decode cX4_say 6 = .ok (.invokevirtual 151, 3) := by decide +kernel
theorem dX4_say_9 : decode cX4_say 9 = .ok (.istore 5, 2) := by decide +kernel
theorem dX4_say_11 : decode cX4_say 11 = .ok (.iload 5, 2) := by decide +kernel
theorem dX4_say_13 : decode cX4_say 13 = .ok (.ifCond .ge 6, 3) := by decide +kernel
theorem dX4_say_16 : decode cX4_say 16 = .ok (.iload 5, 2) := by decide +kernel
theorem dX4_say_18 : decode cX4_say 18 = .ok (.ireturn, 1) := by decide +kernel
theorem dX4_say_19 : decode cX4_say 19 = .ok (.aload_n 0, 1) := by decide +kernel
theorem dX4_say_20 : decode cX4_say 20 = .ok (.invokevirtual 161, 3) := by decide +kernel
theorem dX4_say_23 : decode cX4_say 23 = .ok (.ireturn, 1) := by decide +kernel
theorem dX4_pack_0 : decode cX4_pack 0 = .ok (.iload_n 1, 1) := by decide +kernel
theorem dX4_pack_1 : decode cX4_pack 1 = .ok (.iconst (-1), 1) := by decide +kernel
theorem dX4_pack_2 : decode cX4_pack 2 = .ok (.if_icmp .ge 5, 3) := by decide +kernel
theorem dX4_pack_5 : decode cX4_pack 5 = .ok (.iconst (-1), 1) := by decide +kernel
theorem dX4_pack_6 : decode cX4_pack 6 = .ok (.ireturn, 1) := by decide +kernel
theorem dX4_pack_7 : decode cX4_pack 7 = .ok (.aload_n 0, 1) := by decide +kernel
theorem dX4_pack_8 : decode cX4_pack 8 = .ok (.getfield 35, 3) := by decide +kernel
theorem dX4_pack_11 : decode cX4_pack 11 = .ok (.invokevirtual 117, 3) := by decide +kernel
theorem dX4_pack_14 : decode cX4_pack 14 = .ok (.ifCond .eq 6, 3) := by decide +kernel
theorem dX4_pack_17 : decode cX4_pack 17 = .ok (.bipush (-3), 2) := by decide +kernel
theorem dX4_pack_19 : decode cX4_pack 19 = .ok (.ireturn, 1) := by decide +kernel
theorem dX4_pack_20 : decode cX4_pack 20 = .ok (.iload_n 1, 1) := by decide +kernel
theorem dX4_pack_21 : decode cX4_pack 21 = .ok (.aload_n 0, 1) := by decide +kernel
theorem dX4_pack_22 : decode cX4_pack 22 = .ok (.getfield 35, 3) := by decide +kernel
theorem dX4_pack_25 : decode cX4_pack 25 = .ok (.getfield 72, 3) := by decide +kernel
theorem dX4_pack_28 : decode cX4_pack 28 = .ok (.if_icmp .lt 6, 3) := by decide +kernel
theorem dX4_pack_31 : decode cX4_pack 31 = .ok (.bipush (-9), 2) := by decide +kernel
theorem dX4_pack_33 : decode cX4_pack 33 = .ok (.ireturn, 1) := by decide +kernel
theorem dX4_pack_34 : decode cX4_pack 34 = .ok (.aload_n 0, 1) := by decide +kernel
theorem dX4_pack_35 : decode cX4_pack 35 = .ok (.getfield 35, 3) := by decide +kernel
theorem dX4_pack_38 : decode cX4_pack 38 = .ok (.invokevirtual 164, 3) := by decide +kernel
theorem dX4_pack_41 : decode cX4_pack 41 = .ok (.istore_n 2, 1) := by decide +kernel
theorem dX4_pack_42 : decode cX4_pack 42 = .ok (.aload_n 0, 1) := by decide +kernel
theorem dX4_pack_43 : decode cX4_pack 43 = .ok (.getfield 35, 3) := by decide +kernel
theorem dX4_pack_46 : decode cX4_pack 46 = .ok (.aload_n 0, 1) := by decide +kernel
theorem dX4_pack_47 : decode cX4_pack 47 = .ok (.invokevirtual 167, 3) := by decide +kernel
theorem dX4_pack_50 : decode cX4_pack 50 = .ok (.invokevirtual 170, 3) := by decide +kernel
theorem dX4_pack_53 : decode cX4_pack 53 = .ok (.iload_n 1, 1) := by decide +kernel
theorem dX4_pack_54 : decode cX4_pack 54 = .ok (.ifCond .ge 13, 3) := by decide +kernel
theorem dX4_pack_57 : decode cX4_pack 57 = .ok (.aload_n 0, 1) := by decide +kernel
theorem dX4_pack_58 : decode cX4_pack 58 = .ok (.getfield 35, 3) := by decide +kernel
theorem dX4_pack_61 : decode cX4_pack 61 = .ok (.invokevirtual 174, 3) := by decide +kernel
theorem dX4_pack_64 : decode cX4_pack 64 = .ok (.goto 12, 3) := by decide +kernel
theorem dX4_pack_67 : decode cX4_pack 67 = .ok (.aload_n 0, 1) := by decide +kernel
theorem dX4_pack_68 : decode cX4_pack 68 = .ok (.getfield 35, 3) := by decide +kernel
theorem dX4_pack_71 : decode cX4_pack 71 = .ok (.getfield 104, 3) := by decide +kernel
theorem dX4_pack_74 : decode cX4_pack 74 = .ok (.iload_n 1, 1) := by decide +kernel
theorem dX4_pack_75 : decode cX4_pack 75 = .ok (.iaload, 1) := by decide +kernel
theorem dX4_pack_76 : decode cX4_pack 76 = .ok (.istore_n 3, 1) := by decide +kernel
theorem dX4_pack_77 : decode cX4_pack 77 = .ok (.aload_n 0, 1) := by decide +kernel
theorem dX4_pack_78 : decode cX4_pack 78 = .ok (.getfield 35, 3) := by decide +kernel
theorem dX4_pack_81 : decode cX4_pack 81 = .ok (.iload_n 2, 1) := by decide +kernel
theorem dX4_pack_82 : decode cX4_pack 82 = .ok (.invokevirtual 170, 3) := by decide +kernel
theorem dX4_pack_85 : decode cX4_pack 85 = .ok (.iload_n 3, 1) := by decide +kernel
theorem dX4_pack_86 : decode cX4_pack 86 = .ok (.ireturn, 1) := by decide +kernel
theorem dX4_road_0 : decode cX4_road 0 = .ok (.aload_n 0, 1) := by decide +kernel
theorem dX4_road_1 : decode cX4_road 1 = .ok (.getfield 35, 3) := by decide +kernel
theorem dX4_road_4 : decode cX4_road 4 = .ok (.invokevirtual 117, 3) := by decide +kernel
theorem dX4_road_7 : decode cX4_road 7 = .ok (.ifCond .eq 6, 3) := by decide +kernel
theorem dX4_road_10 : decode cX4_road 10 = .ok (.bipush (-3), 2) := by decide +kernel
theorem dX4_road_12 : decode cX4_road 12 = .ok (.ireturn, 1) := by decide +kernel
theorem dX4_road_13 : decode cX4_road 13 = .ok (.iconst 0, 1) := by decide +kernel
theorem dX4_road_14 : decode cX4_road 14 = .ok (.istore_n 1, 1) := by decide +kernel
theorem dX4_road_15 : decode cX4_road 15 = .ok (.ldc2_w 177, 3) := by decide +kernel
theorem dX4_road_18 : decode cX4_road 18 = .ok (.lstore_n 2, 1) := by decide +kernel
theorem dX4_road_19 : decode cX4_road 19 = .ok (.iconst 0, 1) := by decide +kernel
theorem dX4_road_20 : decode cX4_road 20 = .ok (.istore 4, 2) := by decide +kernel
theorem dX4_road_22 : decode cX4_road 22 = .ok (.iload 4, 2) := by decide +kernel
theorem dX4_road_24 : decode cX4_road 24 = .ok (.aload_n 0, 1) := by decide +kernel
theorem dX4_road_25 : decode cX4_road 25 = .ok (.getfield 35, 3) := by decide +kernel
theorem dX4_road_28 : decode cX4_road 28 = .ok (.getfield 179, 3) := by decide +kernel
theorem dX4_road_31 : decode cX4_road 31 = .ok (.if_icmp .ge 51, 3) := by decide +kernel
theorem dX4_road_34 : decode cX4_road 34 = .ok (.aload_n 0, 1) := by decide +kernel
theorem dX4_road_35 : decode cX4_road 35 = .ok (.getfield 28, 3) := by decide +kernel
theorem dX4_road_38 : decode cX4_road 38 = .ok (.invokevirtual 182, 3) := by decide +kernel
theorem dX4_road_41 : decode cX4_road 41 = .ok (.aload_n 0, 1) := by decide +kernel
theorem dX4_road_42 : decode cX4_road 42 = .ok (.getfield 28, 3) := by decide +kernel
theorem dX4_road_45 : decode cX4_road 45 = .ok (.iload 4, 2) := by decide +kernel
theorem dX4_road_47 : decode cX4_road 47 = .ok (.invokevirtual 185, 3) := by decide +kernel
theorem dX4_road_50 : decode cX4_road 50 = .ok (.aload_n 0, 1) := by decide +kernel
theorem dX4_road_51 : decode cX4_road 51 = .ok (.getfield 28, 3) := by decide +kernel
theorem dX4_road_54 : decode cX4_road 54 = .ok (.aload_n 0, 1) := by decide +kernel
theorem dX4_road_55 : decode cX4_road 55 = .ok (.getfield 35, 3) := by decide +kernel
theorem dX4_road_58 : decode cX4_road 58 = .ok (.invokevirtual 155, 3) := by decide +kernel
theorem dX4_road_61 : decode cX4_road 61 = .ok (.lstore 5, 2) := by decide +kernel
theorem dX4_road_63 : decode cX4_road 63 = .ok (.lload 5, 2) := by decide +kernel
theorem dX4_road_65 : decode cX4_road 65 = .ok (.lload_n 2, 1) := by decide +kernel
theorem dX4_road_66 : decode cX4_road 66 = .ok (.lcmp, 1) := by decide +kernel
theorem dX4_road_67 : decode cX4_road 67 = .ok (.ifCond .ge 9, 3) := by decide +kernel
theorem dX4_road_70 : decode cX4_road 70 = .ok (.lload 5, 2) := by decide +kernel
theorem dX4_road_72 : decode cX4_road 72 = .ok (.lstore_n 2, 1) := by decide +kernel
theorem dX4_road_73 : decode cX4_road 73 = .ok (.iload 4, 2) := by decide +kernel
theorem dX4_road_75 : decode cX4_road 75 = .ok (.istore_n 1, 1) := by decide +kernel
theorem dX4_road_76 : decode cX4_road 76 = .ok (.iinc 4 1, 3) := by decide +kernel
theorem dX4_road_79 : decode cX4_road 79 = .ok (.goto (-57), 3) := by decide +kernel
theorem dX4_road_82 : decode cX4_road 82 = .ok (.iload_n 1, 1) := by decide +kernel
theorem dX4_road_83 : decode cX4_road 83 = .ok (.ireturn, 1) := by decide +kernel
theorem dX4_worth_0 : decode cX4_worth 0 = .ok (.aload_n 0, 1) := by decide +kernel
theorem dX4_worth_1 : decode cX4_worth 1 = .ok (.getfield 35, 3) := by decide +kernel
theorem dX4_worth_4 : decode cX4_worth 4 = .ok (.iload_n 1, 1) := by decide +kernel
theorem dX4_worth_5 : decode cX4_worth 5 = .ok (.invokevirtual 86, 3) := by decide +kernel
theorem dX4_worth_8 : decode cX4_worth 8 = .ok (.ifCond .ne 8, 3) := by decide +kernel
theorem dX4_worth_11 : decode cX4_worth 11 = .ok (.aload_n 0, 1) := by decide +kernel
theorem dX4_worth_12 : decode cX4_worth 12 = .ok (.invokevirtual 147, 3) := by decide +kernel
theorem dX4_worth_15 : decode cX4_worth 15 = .ok (.lreturn, 1) := by decide +kernel
theorem dX4_worth_16 : decode cX4_worth 16 = .ok (.aload_n 0, 1) := by decide +kernel
theorem dX4_worth_17 : decode cX4_worth 17 = .ok (.iload_n 2, 1) := by decide +kernel
theorem dX4_worth_18 : decode cX4_worth 18 = .ok (.iload_n 3, 1) := by decide +kernel
theorem dX4_worth_19 : decode cX4_worth 19 = .ok (.iload 4, 2) := by decide +kernel
theorem dX4_worth_21 : decode cX4_worth 21 = .ok (.iload 5, 2) := by decide +kernel
theorem dX4_worth_23 : decode cX4_worth 23 = .ok (.invokevirtual 151, 3) := by decide +kernel
theorem dX4_worth_26 : decode cX4_worth 26 = .ok (.ifCond .ge 7, 3) := by decide +kernel
theorem dX4_worth_29 : decode cX4_worth 29 = .ok (.ldc2_w 136, 3) := by decide +kernel
theorem dX4_worth_32 : decode cX4_worth 32 = .ok (.lreturn, 1) := by decide +kernel
theorem dX4_worth_33 : decode cX4_worth 33 = .ok (.aload_n 0, 1) := by decide +kernel
theorem dX4_worth_34 : decode cX4_worth 34 = .ok (.getfield 28, 3) := by decide +kernel
theorem dX4_worth_37 : decode cX4_worth 37 = .ok (.aload_n 0, 1) := by decide +kernel
theorem dX4_worth_38 : decode cX4_worth 38 = .ok (.getfield 35, 3) := by decide +kernel
theorem dX4_worth_41 : decode cX4_worth 41 = .ok (.invokevirtual 155, 3) := by decide +kernel
theorem dX4_worth_44 : decode cX4_worth 44 = .ok (.lstore 6, 2) := by decide +kernel
theorem dX4_worth_46 : decode cX4_worth 46 = .ok (.aload_n 0, 1) := by decide +kernel
theorem dX4_worth_47 : decode cX4_worth 47 = .ok (.getfield 35, 3) := by decide +kernel
theorem dX4_worth_50 : decode cX4_worth 50 = .ok (.iload_n 1, 1) := by decide +kernel
theorem dX4_worth_51 : decode cX4_worth 51 = .ok (.putfield 188, 3) := by decide +kernel
theorem dX4_worth_54 : decode cX4_worth 54 = .ok (.aload_n 0, 1) := by decide +kernel
theorem dX4_worth_55 : decode cX4_worth 55 = .ok (.getfield 28, 3) := by decide +kernel
theorem dX4_worth_58 : decode cX4_worth 58 = .ok (.aload_n 0, 1) := by decide +kernel
theorem dX4_worth_59 : decode cX4_worth 59 = .ok (.getfield 35, 3) := by decide +kernel
theorem dX4_worth_62 : decode cX4_worth 62 = .ok (.invokevirtual 155, 3) := by decide +kernel
theorem dX4_worth_65 : decode cX4_worth 65 = .ok (.lstore 8, 2) := by decide +kernel
theorem dX4_worth_67 : decode cX4_worth 67 = .ok (.aload_n 0, 1) := by decide +kernel
theorem dX4_worth_68 : decode cX4_worth 68 = .ok (.getfield 35, 3) := by decide +kernel
theorem dX4_worth_71 : decode cX4_worth 71 = .ok (.bipush (-9), 2) := by decide +kernel
theorem dX4_worth_73 : decode cX4_worth 73 = .ok (.putfield 188, 3) := by decide +kernel
theorem dX4_worth_76 : decode cX4_worth 76 = .ok (.lload 6, 2) := by decide +kernel
theorem dX4_worth_78 : decode cX4_worth 78 = .ok (.lload 8, 2) := by decide +kernel
theorem dX4_worth_80 : decode cX4_worth 80 = .ok (.lsub, 1) := by decide +kernel
theorem dX4_worth_81 : decode cX4_worth 81 = .ok (.lreturn, 1) := by decide +kernel
theorem dX4_reading_0 : decode cX4_reading 0 = .ok (.aload_n 0, 1) := by decide +kernel
theorem dX4_reading_1 : decode cX4_reading 1 = .ok (.getfield 35, 3) := by decide +kernel
theorem dX4_reading_4 : decode cX4_reading 4 = .ok (.iload_n 1, 1) := by decide +kernel
theorem dX4_reading_5 : decode cX4_reading 5 = .ok (.invokevirtual 75, 3) := by decide +kernel
theorem dX4_reading_8 : decode cX4_reading 8 = .ok (.ifCond .ne 5, 3) := by decide +kernel
theorem dX4_reading_11 : decode cX4_reading 11 = .ok (.iconst (-1), 1) := by decide +kernel
theorem dX4_reading_12 : decode cX4_reading 12 = .ok (.ireturn, 1) := by decide +kernel
theorem dX4_reading_13 : decode cX4_reading 13 = .ok (.iload_n 2, 1) := by decide +kernel
theorem dX4_reading_14 : decode cX4_reading 14 = .ok (.iconst 0, 1) := by decide +kernel
theorem dX4_reading_15 : decode cX4_reading 15 = .ok (.ldc 191, 2) := by decide +kernel
theorem dX4_reading_17 : decode cX4_reading 17 = .ok (.invokestatic 113, 3) := by decide +kernel
theorem dX4_reading_20 : decode cX4_reading 20 = .ok (.ifCond .ne 6, 3) := by decide +kernel
theorem dX4_reading_23 : decode cX4_reading 23 = .ok (.bipush (-2), 2) := by decide +kernel
theorem dX4_reading_25 : decode cX4_reading 25 = .ok (.ireturn, 1) := by decide +kernel
theorem dX4_reading_26 : decode cX4_reading 26 = .ok (.aload_n 0, 1) := by decide +kernel
theorem dX4_reading_27 : decode cX4_reading 27 = .ok (.getfield 35, 3) := by decide +kernel
theorem dX4_reading_30 : decode cX4_reading 30 = .ok (.getfield 192, 3) := by decide +kernel
theorem dX4_reading_33 : decode cX4_reading 33 = .ok (.bipush 8, 2) := by decide +kernel
theorem dX4_reading_35 : decode cX4_reading 35 = .ok (.if_icmp .lt 6, 3) := by decide +kernel
theorem dX4_reading_38 : decode cX4_reading 38 = .ok (.bipush (-4), 2) := by decide +kernel
theorem dX4_reading_40 : decode cX4_reading 40 = .ok (.ireturn, 1) := by decide +kernel
theorem dX4_reading_41 : decode cX4_reading 41 = .ok (.aload_n 0, 1) := by decide +kernel
theorem dX4_reading_42 : decode cX4_reading 42 = .ok (.getfield 35, 3) := by decide +kernel
theorem dX4_reading_45 : decode cX4_reading 45 = .ok (.getfield 192, 3) := by decide +kernel
theorem dX4_reading_48 : decode cX4_reading 48 = .ok (.istore_n 3, 1) := by decide +kernel
theorem dX4_reading_49 : decode cX4_reading 49 = .ok (.aload_n 0, 1) := by decide +kernel
theorem dX4_reading_50 : decode cX4_reading 50 = .ok (.getfield 35, 3) := by decide +kernel
theorem dX4_reading_53 : decode cX4_reading 53 = .ok (.getfield 195, 3) := by decide +kernel
theorem dX4_reading_56 : decode cX4_reading 56 = .ok (.iload_n 3, 1) := by decide +kernel
theorem dX4_reading_57 : decode cX4_reading 57 = .ok (.iload_n 1, 1) := by decide +kernel
theorem dX4_reading_58 : decode cX4_reading 58 = .ok (.iastore, 1) := by decide +kernel
theorem dX4_reading_59 : decode cX4_reading 59 = .ok (.aload_n 0, 1) := by decide +kernel
theorem dX4_reading_60 : decode cX4_reading 60 = .ok (.getfield 35, 3) := by decide +kernel
theorem dX4_reading_63 : decode cX4_reading 63 = .ok (.getfield 198, 3) := by decide +kernel
theorem dX4_reading_66 : decode cX4_reading 66 = .ok (.iload_n 3, 1) := by decide +kernel
theorem dX4_reading_67 : decode cX4_reading 67 = .ok (.iload_n 2, 1) := by decide +kernel
theorem dX4_reading_68 : decode cX4_reading 68 = .ok (.iastore, 1) := by decide +kernel
theorem dX4_reading_69 : decode cX4_reading 69 = .ok (.aload_n 0, 1) := by decide +kernel
theorem dX4_reading_70 : decode cX4_reading 70 = .ok (.getfield 35, 3) := by decide +kernel
theorem dX4_reading_73 : decode cX4_reading 73 = .ok (.iload_n 3, 1) := by decide +kernel
theorem dX4_reading_74 : decode cX4_reading 74 = .ok (.iconst 1, 1) := by decide +kernel
theorem dX4_reading_75 : decode cX4_reading 75 = .ok (.iadd, 1) := by decide +kernel
theorem dX4_reading_76 : decode cX4_reading 76 = .ok (.putfield 192, 3) := by decide +kernel
theorem dX4_reading_79 : decode cX4_reading 79 = .ok (.iload_n 3, 1) := by decide +kernel
theorem dX4_reading_80 : decode cX4_reading 80 = .ok (.ireturn, 1) := by decide +kernel
theorem dX4_back_0 : decode cX4_back 0 = .ok (.iload_n 1, 1) := by decide +kernel
theorem dX4_back_1 : decode cX4_back 1 = .ok (.iconst 0, 1) := by decide +kernel
theorem dX4_back_2 : decode cX4_back 2 = .ok (.aload_n 0, 1) := by decide +kernel
theorem dX4_back_3 : decode cX4_back 3 = .ok (.getfield 35, 3) := by decide +kernel
theorem dX4_back_6 : decode cX4_back 6 = .ok (.getfield 192, 3) := by decide +kernel
theorem dX4_back_9 : decode cX4_back 9 = .ok (.invokestatic 113, 3) := by decide +kernel
theorem dX4_back_12 : decode cX4_back 12 = .ok (.ifCond .ne 6, 3) := by decide +kernel
theorem dX4_back_15 : decode cX4_back 15 = .ok (.bipush (-2), 2) := by decide +kernel
theorem dX4_back_17 : decode cX4_back 17 = .ok (.ireturn, 1) := by decide +kernel
theorem dX4_back_18 : decode cX4_back 18 = .ok (.aload_n 0, 1) := by decide +kernel
theorem dX4_back_19 : decode cX4_back 19 = .ok (.getfield 35, 3) := by decide +kernel
theorem dX4_back_22 : decode cX4_back 22 = .ok (.dup, 1) := by decide +kernel
theorem dX4_back_23 : decode cX4_back 23 = .ok (.getfield 192, 3) := by decide +kernel
theorem dX4_back_26 : decode cX4_back 26 = .ok (.iload_n 1, 1) := by decide +kernel
theorem dX4_back_27 : decode cX4_back 27 = .ok (.isub, 1) := by decide +kernel
theorem dX4_back_28 : decode cX4_back 28 = .ok (.putfield 192, 3) := by decide +kernel
theorem dX4_back_31 : decode cX4_back 31 = .ok (.aload_n 0, 1) := by decide +kernel
theorem dX4_back_32 : decode cX4_back 32 = .ok (.getfield 35, 3) := by decide +kernel
theorem dX4_back_35 : decode cX4_back 35 = .ok (.getfield 192, 3) := by decide +kernel
theorem dX4_back_38 : decode cX4_back 38 = .ok (.ireturn, 1) := by decide +kernel
theorem dX4_said_0 : decode cX4_said 0 = .ok (.iload_n 1, 1) := by decide +kernel
theorem dX4_said_1 : decode cX4_said 1 = .ok (.iconst 0, 1) := by decide +kernel
theorem dX4_said_2 : decode cX4_said 2 = .ok (.iconst 1, 1) := by decide +kernel
theorem dX4_said_3 : decode cX4_said 3 = .ok (.invokestatic 113, 3) := by decide +kernel
theorem dX4_said_6 : decode cX4_said 6 = .ok (.ifCond .ne 6, 3) := by decide +kernel
theorem dX4_said_9 : decode cX4_said 9 = .ok (.bipush (-2), 2) := by decide +kernel
theorem dX4_said_11 : decode cX4_said 11 = .ok (.ireturn, 1) := by decide +kernel
theorem dX4_said_12 : decode cX4_said 12 = .ok (.aload_n 0, 1) := by decide +kernel
theorem dX4_said_13 : decode cX4_said 13 = .ok (.getfield 35, 3) := by decide +kernel
theorem dX4_said_16 : decode cX4_said 16 = .ok (.invokevirtual 117, 3) := by decide +kernel
theorem dX4_said_19 : decode cX4_said 19 = .ok (.ifCond .eq 6, 3) := by decide +kernel
theorem dX4_said_22 : decode cX4_said 22 = .ok (.bipush (-3), 2) := by decide +kernel
theorem dX4_said_24 : decode cX4_said 24 = .ok (.ireturn, 1) := by decide +kernel
theorem dX4_said_25 : decode cX4_said 25 = .ok (.aload_n 0, 1) := by decide +kernel
theorem dX4_said_26 : decode cX4_said 26 = .ok (.getfield 35, 3) := by decide +kernel
theorem dX4_said_29 : decode cX4_said 29 = .ok (.getfield 127, 3) := by decide +kernel
theorem dX4_said_32 : decode cX4_said 32 = .ok (.istore_n 2, 1) := by decide +kernel
theorem dX4_said_33 : decode cX4_said 33 = .ok (.iconst 0, 1) := by decide +kernel
theorem dX4_said_34 : decode cX4_said 34 = .ok (.istore_n 3, 1) := by decide +kernel
theorem dX4_said_35 : decode cX4_said 35 = .ok (.bipush (-9), 2) := by decide +kernel
theorem dX4_said_37 : decode cX4_said 37 = .ok (.istore 4, 2) := by decide +kernel
theorem dX4_said_39 : decode cX4_said 39 = .ok (.aload_n 0, 1) := by decide +kernel
theorem dX4_said_40 : decode cX4_said 40 = .ok (.getfield 35, 3) := by decide +kernel
theorem dX4_said_43 : decode cX4_said 43 = .ok (.invokevirtual 201, 3) := by decide +kernel
theorem dX4_said_46 : decode cX4_said 46 = .ok (.istore 5, 2) := by decide +kernel
theorem dX4_said_48 : decode cX4_said 48 = .ok (.iload 5, 2) := by decide +kernel
theorem dX4_said_50 : decode cX4_said 50 = .ok (.ifCond .lt 35, 3) := by decide +kernel
theorem dX4_said_53 : decode cX4_said 53 = .ok (.aload_n 0, 1) := by decide +kernel
theorem dX4_said_54 : decode cX4_said 54 = .ok (.getfield 35, 3) := by decide +kernel
theorem dX4_said_57 : decode cX4_said 57 = .ok (.iload 5, 2) := by decide +kernel
theorem dX4_said_59 : decode cX4_said 59 = .ok (.putfield 127, 3) := by decide +kernel
theorem dX4_said_62 : decode cX4_said 62 = .ok (.aload_n 0, 1) := by decide +kernel
theorem dX4_said_63 : decode cX4_said 63 = .ok (.getfield 35, 3) := by decide +kernel
theorem dX4_said_66 : decode cX4_said 66 = .ok (.invokevirtual 204, 3) := by decide +kernel
theorem dX4_said_69 : decode cX4_said 69 = .ok (.ifCond .eq 10, 3) := by decide +kernel
theorem dX4_said_72 : decode cX4_said 72 = .ok (.iinc 3 1, 3) := by decide +kernel
theorem dX4_said_75 : decode cX4_said 75 = .ok (.iload 5, 2) := by decide +kernel
theorem dX4_said_77 : decode cX4_said 77 = .ok (.istore 4, 2) := by decide +kernel
theorem dX4_said_79 : decode cX4_said 79 = .ok (.iinc 5 (-1), 3) := by decide +kernel
theorem dX4_said_82 : decode cX4_said 82 = .ok (.goto (-34), 3) := by decide +kernel
theorem dX4_said_85 : decode cX4_said 85 = .ok (.aload_n 0, 1) := by decide +kernel
theorem dX4_said_86 : decode cX4_said 86 = .ok (.getfield 35, 3) := by decide +kernel
theorem dX4_said_89 : decode cX4_said 89 = .ok (.iload_n 2, 1) := by decide +kernel
theorem dX4_said_90 : decode cX4_said 90 = .ok (.putfield 127, 3) := by decide +kernel
theorem dX4_said_93 : decode cX4_said 93 = .ok (.iload_n 1, 1) := by decide +kernel
theorem dX4_said_94 : decode cX4_said 94 = .ok (.ifCond .ne 7, 3) := by decide +kernel
theorem dX4_said_97 : decode cX4_said 97 = .ok (.iload_n 3, 1) := by decide +kernel
theorem dX4_said_98 : decode cX4_said 98 = .ok (.goto 5, 3) := by decide +kernel
theorem dX4_said_101 : decode cX4_said 101 = .ok (.iload 4, 2) := by decide +kernel
theorem dX4_said_103 : decode cX4_said 103 = .ok (.ireturn, 1) := by decide +kernel
theorem dX4_frees_0 : decode cX4_frees 0 = .ok (.aload_n 0, 1) := by decide +kernel
theorem dX4_frees_1 : decode cX4_frees 1 = .ok (.getfield 35, 3) := by decide +kernel
theorem dX4_frees_4 : decode cX4_frees 4 = .ok (.invokevirtual 117, 3) := by decide +kernel
theorem dX4_frees_7 : decode cX4_frees 7 = .ok (.ifCond .eq 6, 3) := by decide +kernel
theorem dX4_frees_10 : decode cX4_frees 10 = .ok (.bipush (-3), 2) := by decide +kernel
theorem dX4_frees_12 : decode cX4_frees 12 = .ok (.ireturn, 1) := by decide +kernel
theorem dX4_frees_13 : decode cX4_frees 13 = .ok (.aload_n 0, 1) := by decide +kernel
theorem dX4_frees_14 : decode cX4_frees 14 = .ok (.getfield 35, 3) := by decide +kernel
theorem dX4_frees_17 : decode cX4_frees 17 = .ok (.getfield 121, 3) := by decide +kernel
theorem dX4_frees_20 : decode cX4_frees 20 = .ok (.istore_n 1, 1) := by decide +kernel
theorem dX4_frees_21 : decode cX4_frees 21 = .ok (.iconst 0, 1) := by decide +kernel
theorem dX4_frees_22 : decode cX4_frees 22 = .ok (.istore_n 2, 1) := by decide +kernel
theorem dX4_frees_23 : decode cX4_frees 23 = .ok (.iconst 0, 1) := by decide +kernel
theorem dX4_frees_24 : decode cX4_frees 24 = .ok (.istore_n 3, 1) := by decide +kernel
theorem dX4_frees_25 : decode cX4_frees 25 = .ok (.iload_n 3, 1) := by decide +kernel
theorem dX4_frees_26 : decode cX4_frees 26 = .ok (.bipush 9, 2) := by decide +kernel
theorem dX4_frees_28 : decode cX4_frees 28 = .ok (.if_icmp .gt 33, 3) := by decide +kernel
theorem dX4_frees_31 : decode cX4_frees 31 = .ok (.aload_n 0, 1) := by decide +kernel
theorem dX4_frees_32 : decode cX4_frees 32 = .ok (.getfield 35, 3) := by decide +kernel
theorem dX4_frees_35 : decode cX4_frees 35 = .ok (.iload_n 3, 1) := by decide +kernel
theorem dX4_frees_36 : decode cX4_frees 36 = .ok (.putfield 121, 3) := by decide +kernel
theorem dX4_frees_39 : decode cX4_frees 39 = .ok (.aload_n 0, 1) := by decide +kernel
theorem dX4_frees_40 : decode cX4_frees 40 = .ok (.getfield 35, 3) := by decide +kernel
theorem dX4_frees_43 : decode cX4_frees 43 = .ok (.invokevirtual 204, 3) := by decide +kernel
theorem dX4_frees_46 : decode cX4_frees 46 = .ok (.ifCond .eq 9, 3) := by decide +kernel
theorem dX4_frees_49 : decode cX4_frees 49 = .ok (.iload_n 2, 1) := by decide +kernel
theorem dX4_frees_50 : decode cX4_frees 50 = .ok (.iconst 1, 1) := by decide +kernel
theorem dX4_frees_51 : decode cX4_frees 51 = .ok (.iload_n 3, 1) := by decide +kernel
theorem dX4_frees_52 : decode cX4_frees 52 = .ok (.ishl, 1) := by decide +kernel
theorem dX4_frees_53 : decode cX4_frees 53 = .ok (.ior, 1) := by decide +kernel
theorem dX4_frees_54 : decode cX4_frees 54 = .ok (.istore_n 2, 1) := by decide +kernel
theorem dX4_frees_55 : decode cX4_frees 55 = .ok (.iinc 3 1, 3) := by decide +kernel
theorem dX4_frees_58 : decode cX4_frees 58 = .ok (.goto (-33), 3) := by decide +kernel
theorem dX4_frees_61 : decode cX4_frees 61 = .ok (.aload_n 0, 1) := by decide +kernel
theorem dX4_frees_62 : decode cX4_frees 62 = .ok (.getfield 35, 3) := by decide +kernel
theorem dX4_frees_65 : decode cX4_frees 65 = .ok (.iload_n 1, 1) := by decide +kernel
theorem dX4_frees_66 : decode cX4_frees 66 = .ok (.putfield 121, 3) := by decide +kernel
theorem dX4_frees_69 : decode cX4_frees 69 = .ok (.iload_n 2, 1) := by decide +kernel
theorem dX4_frees_70 : decode cX4_frees 70 = .ok (.ireturn, 1) := by decide +kernel
theorem dX4_laws_0 : decode cX4_laws 0 = .ok (.aload_n 0, 1) := by decide +kernel
theorem dX4_laws_1 : decode cX4_laws 1 = .ok (.getfield 35, 3) := by decide +kernel
theorem dX4_laws_4 : decode cX4_laws 4 = .ok (.invokevirtual 117, 3) := by decide +kernel
theorem dX4_laws_7 : decode cX4_laws 7 = .ok (.ifCond .eq 6, 3) := by decide +kernel
theorem dX4_laws_10 : decode cX4_laws 10 = .ok (.bipush (-3), 2) := by decide +kernel
theorem dX4_laws_12 : decode cX4_laws 12 = .ok (.ireturn, 1) := by decide +kernel
theorem dX4_laws_13 : decode cX4_laws 13 = .ok (.aload_n 0, 1) := by decide +kernel
theorem dX4_laws_14 : decode cX4_laws 14 = .ok (.getfield 35, 3) := by decide +kernel
theorem dX4_laws_17 : decode cX4_laws 17 = .ok (.getfield 124, 3) := by decide +kernel
theorem dX4_laws_20 : decode cX4_laws 20 = .ok (.istore_n 1, 1) := by decide +kernel
theorem dX4_laws_21 : decode cX4_laws 21 = .ok (.iconst 0, 1) := by decide +kernel
theorem dX4_laws_22 : decode cX4_laws 22 = .ok (.istore_n 2, 1) := by decide +kernel
theorem dX4_laws_23 : decode cX4_laws 23 = .ok (.iconst 0, 1) := by decide +kernel
theorem dX4_laws_24 : decode cX4_laws 24 = .ok (.istore_n 3, 1) := by decide +kernel
theorem dX4_laws_25 : decode cX4_laws 25 = .ok (.iload_n 3, 1) := by decide +kernel
theorem dX4_laws_26 : decode cX4_laws 26 = .ok (.bipush 7, 2) := by decide +kernel
theorem dX4_laws_28 : decode cX4_laws 28 = .ok (.if_icmp .gt 33, 3) := by decide +kernel
theorem dX4_laws_31 : decode cX4_laws 31 = .ok (.aload_n 0, 1) := by decide +kernel
theorem dX4_laws_32 : decode cX4_laws 32 = .ok (.getfield 35, 3) := by decide +kernel
theorem dX4_laws_35 : decode cX4_laws 35 = .ok (.iload_n 3, 1) := by decide +kernel
theorem dX4_laws_36 : decode cX4_laws 36 = .ok (.putfield 124, 3) := by decide +kernel
theorem dX4_laws_39 : decode cX4_laws 39 = .ok (.aload_n 0, 1) := by decide +kernel
theorem dX4_laws_40 : decode cX4_laws 40 = .ok (.getfield 35, 3) := by decide +kernel
theorem dX4_laws_43 : decode cX4_laws 43 = .ok (.invokevirtual 204, 3) := by decide +kernel
theorem dX4_laws_46 : decode cX4_laws 46 = .ok (.ifCond .eq 9, 3) := by decide +kernel
theorem dX4_laws_49 : decode cX4_laws 49 = .ok (.iload_n 2, 1) := by decide +kernel
theorem dX4_laws_50 : decode cX4_laws 50 = .ok (.iconst 1, 1) := by decide +kernel
theorem dX4_laws_51 : decode cX4_laws 51 = .ok (.iload_n 3, 1) := by decide +kernel
theorem dX4_laws_52 : decode cX4_laws 52 = .ok (.ishl, 1) := by decide +kernel
theorem dX4_laws_53 : decode cX4_laws 53 = .ok (.ior, 1) := by decide +kernel
theorem dX4_laws_54 : decode cX4_laws 54 = .ok (.istore_n 2, 1) := by decide +kernel
theorem dX4_laws_55 : decode cX4_laws 55 = .ok (.iinc 3 1, 3) := by decide +kernel
theorem dX4_laws_58 : decode cX4_laws 58 = .ok (.goto (-33), 3) := by decide +kernel
theorem dX4_laws_61 : decode cX4_laws 61 = .ok (.aload_n 0, 1) := by decide +kernel
theorem dX4_laws_62 : decode cX4_laws 62 = .ok (.getfield 35, 3) := by decide +kernel
theorem dX4_laws_65 : decode cX4_laws 65 = .ok (.iload_n 1, 1) := by decide +kernel
theorem dX4_laws_66 : decode cX4_laws 66 = .ok (.putfield 124, 3) := by decide +kernel
theorem dX4_laws_69 : decode cX4_laws 69 = .ok (.iload_n 2, 1) := by decide +kernel
theorem dX4_laws_70 : decode cX4_laws 70 = .ok (.ireturn, 1) := by decide +kernel
theorem dX4_kinds_0 : decode cX4_kinds 0 = .ok (.aload_n 0, 1) := by decide +kernel
theorem dX4_kinds_1 : decode cX4_kinds 1 = .ok (.getfield 35, 3) := by decide +kernel
theorem dX4_kinds_4 : decode cX4_kinds 4 = .ok (.iload_n 1, 1) := by decide +kernel
theorem dX4_kinds_5 : decode cX4_kinds 5 = .ok (.invokevirtual 86, 3) := by decide +kernel
theorem dX4_kinds_8 : decode cX4_kinds 8 = .ok (.ifCond .ne 5, 3) := by decide +kernel
theorem dX4_kinds_11 : decode cX4_kinds 11 = .ok (.iconst (-1), 1) := by decide +kernel
theorem dX4_kinds_12 : decode cX4_kinds 12 = .ok (.ireturn, 1) := by decide +kernel
theorem dX4_kinds_13 : decode cX4_kinds 13 = .ok (.aload_n 0, 1) := by decide +kernel
theorem dX4_kinds_14 : decode cX4_kinds 14 = .ok (.getfield 35, 3) := by decide +kernel
theorem dX4_kinds_17 : decode cX4_kinds 17 = .ok (.getfield 89, 3) := by decide +kernel
theorem dX4_kinds_20 : decode cX4_kinds 20 = .ok (.iload_n 1, 1) := by decide +kernel
theorem dX4_kinds_21 : decode cX4_kinds 21 = .ok (.iaload, 1) := by decide +kernel
theorem dX4_kinds_22 : decode cX4_kinds 22 = .ok (.istore_n 2, 1) := by decide +kernel
theorem dX4_kinds_23 : decode cX4_kinds 23 = .ok (.iconst 0, 1) := by decide +kernel
theorem dX4_kinds_24 : decode cX4_kinds 24 = .ok (.istore_n 3, 1) := by decide +kernel
theorem dX4_kinds_25 : decode cX4_kinds 25 = .ok (.iconst 0, 1) := by decide +kernel
theorem dX4_kinds_26 : decode cX4_kinds 26 = .ok (.istore 4, 2) := by decide +kernel
theorem dX4_kinds_28 : decode cX4_kinds 28 = .ok (.iload 4, 2) := by decide +kernel
theorem dX4_kinds_30 : decode cX4_kinds 30 = .ok (.iconst 3, 1) := by decide +kernel
theorem dX4_kinds_31 : decode cX4_kinds 31 = .ok (.if_icmp .ge 37, 3) := by decide +kernel
theorem dX4_kinds_34 : decode cX4_kinds 34 = .ok (.aload_n 0, 1) := by decide +kernel
theorem dX4_kinds_35 : decode cX4_kinds 35 = .ok (.getfield 35, 3) := by decide +kernel
theorem dX4_kinds_38 : decode cX4_kinds 38 = .ok (.getfield 89, 3) := by decide +kernel
theorem dX4_kinds_41 : decode cX4_kinds 41 = .ok (.iload_n 1, 1) := by decide +kernel
theorem dX4_kinds_42 : decode cX4_kinds 42 = .ok (.iload 4, 2) := by decide +kernel
theorem dX4_kinds_44 : decode cX4_kinds 44 = .ok (.iastore, 1) := by decide +kernel
theorem dX4_kinds_45 : decode cX4_kinds 45 = .ok (.aload_n 0, 1) := by decide +kernel
theorem dX4_kinds_46 : decode cX4_kinds 46 = .ok (.getfield 35, 3) := by decide +kernel
theorem dX4_kinds_49 : decode cX4_kinds 49 = .ok (.invokevirtual 204, 3) := by decide +kernel
theorem dX4_kinds_52 : decode cX4_kinds 52 = .ok (.ifCond .eq 10, 3) := by decide +kernel
theorem dX4_kinds_55 : decode cX4_kinds 55 = .ok (.iload_n 3, 1) := by decide +kernel
theorem dX4_kinds_56 : decode cX4_kinds 56 = .ok (.iconst 1, 1) := by decide +kernel
theorem dX4_kinds_57 : decode cX4_kinds 57 = .ok (.iload 4, 2) := by decide +kernel
theorem dX4_kinds_59 : decode cX4_kinds 59 = .ok (.ishl, 1) := by decide +kernel
theorem dX4_kinds_60 : decode cX4_kinds 60 = .ok (.ior, 1) := by decide +kernel
theorem dX4_kinds_61 : decode cX4_kinds 61 = .ok (.istore_n 3, 1) := by decide +kernel
theorem dX4_kinds_62 : decode cX4_kinds 62 = .ok (.iinc 4 1, 3) := by decide +kernel
theorem dX4_kinds_65 : decode cX4_kinds 65 = .ok (.goto (-37), 3) := by decide +kernel
theorem dX4_kinds_68 : decode cX4_kinds 68 = .ok (.aload_n 0, 1) := by decide +kernel
theorem dX4_kinds_69 : decode cX4_kinds 69 = .ok (.getfield 35, 3) := by decide +kernel
theorem dX4_kinds_72 : decode cX4_kinds 72 = .ok (.getfield 89, 3) := by decide +kernel
theorem dX4_kinds_75 : decode cX4_kinds 75 = .ok (.iload_n 1, 1) := by decide +kernel
theorem dX4_kinds_76 : decode cX4_kinds 76 = .ok (.iload_n 2, 1) := by decide +kernel
theorem dX4_kinds_77 : decode cX4_kinds 77 = .ok (.iastore, 1) := by decide +kernel
theorem dX4_kinds_78 : decode cX4_kinds 78 = .ok (.iload_n 3, 1) := by decide +kernel
theorem dX4_kinds_79 : decode cX4_kinds 79 = .ok (.ireturn, 1) := by decide +kernel
theorem dX4_odds_0 : decode cX4_odds 0 = .ok (.aload_n 0, 1) := by decide +kernel
theorem dX4_odds_1 : decode cX4_odds 1 = .ok (.getfield 35, 3) := by decide +kernel
theorem dX4_odds_4 : decode cX4_odds 4 = .ok (.iload_n 1, 1) := by decide +kernel
theorem dX4_odds_5 : decode cX4_odds 5 = .ok (.invokevirtual 75, 3) := by decide +kernel
theorem dX4_odds_8 : decode cX4_odds 8 = .ok (.ifCond .eq 22, 3) := by decide +kernel
theorem dX4_odds_11 : decode cX4_odds 11 = .ok (.iload_n 2, 1) := by decide +kernel
theorem dX4_odds_12 : decode cX4_odds 12 = .ok (.iconst 0, 1) := by decide +kernel
theorem dX4_odds_13 : decode cX4_odds 13 = .ok (.ldc 191, 2) := by decide +kernel
theorem dX4_odds_15 : decode cX4_odds 15 = .ok (.invokestatic 113, 3) := by decide +kernel
theorem dX4_odds_18 : decode cX4_odds 18 = .ok (.ifCond .eq 12, 3) := by decide +kernel
theorem dX4_odds_21 : decode cX4_odds 21 = .ok (.iload_n 3, 1) := by decide +kernel
theorem dX4_odds_22 : decode cX4_odds 22 = .ok (.iconst 0, 1) := by decide +kernel
theorem dX4_odds_23 : decode cX4_odds 23 = .ok (.iconst 1, 1) := by decide +kernel
theorem dX4_odds_24 : decode cX4_odds 24 = .ok (.invokestatic 113, 3) := by decide +kernel
theorem dX4_odds_27 : decode cX4_odds 27 = .ok (.ifCond .ne 7, 3) := by decide +kernel
theorem dX4_odds_30 : decode cX4_odds 30 = .ok (.ldc2_w 136, 3) := by decide +kernel
theorem dX4_odds_33 : decode cX4_odds 33 = .ok (.lreturn, 1) := by decide +kernel
theorem dX4_odds_34 : decode cX4_odds 34 = .ok (.aload_n 0, 1) := by decide +kernel
theorem dX4_odds_35 : decode cX4_odds 35 = .ok (.getfield 35, 3) := by decide +kernel
theorem dX4_odds_38 : decode cX4_odds 38 = .ok (.getfield 127, 3) := by decide +kernel
theorem dX4_odds_41 : decode cX4_odds 41 = .ok (.istore 4, 2) := by decide +kernel
theorem dX4_odds_43 : decode cX4_odds 43 = .ok (.aload_n 0, 1) := by decide +kernel
theorem dX4_odds_44 : decode cX4_odds 44 = .ok (.getfield 35, 3) := by decide +kernel
theorem dX4_odds_47 : decode cX4_odds 47 = .ok (.invokevirtual 201, 3) := by decide +kernel
theorem dX4_odds_50 : decode cX4_odds 50 = .ok (.istore 5, 2) := by decide +kernel
theorem dX4_odds_52 : decode cX4_odds 52 = .ok (.iconst 0, 1) := by decide +kernel
theorem dX4_odds_53 : decode cX4_odds 53 = .ok (.istore 6, 2) := by decide +kernel
theorem dX4_odds_55 : decode cX4_odds 55 = .ok (.iconst 0, 1) := by decide +kernel
theorem dX4_odds_56 : decode cX4_odds 56 = .ok (.istore 7, 2) := by decide +kernel
theorem dX4_odds_58 : decode cX4_odds 58 = .ok (.iload 7, 2) := by decide +kernel
theorem dX4_odds_60 : decode cX4_odds 60 = .ok (.iload 5, 2) := by decide +kernel
theorem dX4_odds_62 : decode cX4_odds 62 = .ok (.if_icmp .gt 33, 3) := by decide +kernel
theorem dX4_odds_65 : decode cX4_odds 65 = .ok (.aload_n 0, 1) := by decide +kernel
theorem dX4_odds_66 : decode cX4_odds 66 = .ok (.getfield 35, 3) := by decide +kernel
theorem dX4_odds_69 : decode cX4_odds 69 = .ok (.iload 7, 2) := by decide +kernel
theorem dX4_odds_71 : decode cX4_odds 71 = .ok (.putfield 127, 3) := by decide +kernel
theorem dX4_odds_74 : decode cX4_odds 74 = .ok (.aload_n 0, 1) := by decide +kernel
theorem dX4_odds_75 : decode cX4_odds 75 = .ok (.getfield 35, 3) := by decide +kernel
theorem dX4_odds_78 : decode cX4_odds 78 = .ok (.iload_n 1, 1) := by decide +kernel
theorem dX4_odds_79 : decode cX4_odds 79 = .ok (.invokevirtual 133, 3) := by decide +kernel
theorem dX4_odds_82 : decode cX4_odds 82 = .ok (.iload_n 2, 1) := by decide +kernel
theorem dX4_odds_83 : decode cX4_odds 83 = .ok (.if_icmp .lt 6, 3) := by decide +kernel
theorem dX4_odds_86 : decode cX4_odds 86 = .ok (.iinc 6 1, 3) := by decide +kernel
theorem dX4_odds_89 : decode cX4_odds 89 = .ok (.iinc 7 1, 3) := by decide +kernel
theorem dX4_odds_92 : decode cX4_odds 92 = .ok (.goto (-34), 3) := by decide +kernel
theorem dX4_odds_95 : decode cX4_odds 95 = .ok (.aload_n 0, 1) := by decide +kernel
theorem dX4_odds_96 : decode cX4_odds 96 = .ok (.getfield 35, 3) := by decide +kernel
theorem dX4_odds_99 : decode cX4_odds 99 = .ok (.iload 4, 2) := by decide +kernel
theorem dX4_odds_101 : decode cX4_odds 101 = .ok (.putfield 127, 3) := by decide +kernel
theorem dX4_odds_104 : decode cX4_odds 104 = .ok (.iload 6, 2) := by decide +kernel
theorem dX4_odds_106 : decode cX4_odds 106 = .ok (.i2l, 1) := by decide +kernel
theorem dX4_odds_107 : decode cX4_odds 107 = .ok (.iload 5, 2) := by decide +kernel
theorem dX4_odds_109 : decode cX4_odds 109 = .ok (.iconst 1, 1) := by decide +kernel
theorem dX4_odds_110 : decode cX4_odds 110 = .ok (.iadd, 1) := by decide +kernel
theorem dX4_odds_111 : decode cX4_odds 111 = .ok (.i2l, 1) := by decide +kernel
theorem dX4_odds_112 : decode cX4_odds 112 = .ok (.iload_n 3, 1) := by decide +kernel
theorem dX4_odds_113 : decode cX4_odds 113 = .ok (.invokestatic 143, 3) := by decide +kernel
theorem dX4_odds_116 : decode cX4_odds 116 = .ok (.lreturn, 1) := by decide +kernel
theorem dX4_sheet_0 : decode cX4_sheet 0 = .ok (.iload_n 1, 1) := by decide +kernel
theorem dX4_sheet_1 : decode cX4_sheet 1 = .ok (.iload_n 2, 1) := by decide +kernel
theorem dX4_sheet_2 : decode cX4_sheet 2 = .ok (.invokestatic 42, 3) := by decide +kernel
theorem dX4_sheet_5 : decode cX4_sheet 5 = .ok (.istore 4, 2) := by decide +kernel
theorem dX4_sheet_7 : decode cX4_sheet 7 = .ok (.iload 4, 2) := by decide +kernel
theorem dX4_sheet_9 : decode cX4_sheet 9 = .ok (.ifCond .ne 13, 3) := by decide +kernel
theorem dX4_sheet_12 : decode cX4_sheet 12 = .ok (.iload_n 3, 1) := by decide +kernel
theorem dX4_sheet_13 : decode cX4_sheet 13 = .ok (.bipush 60, 2) := by decide +kernel
theorem dX4_sheet_15 : decode cX4_sheet 15 = .ok (.if_icmp .le 7, 3) := by decide +kernel
theorem dX4_sheet_18 : decode cX4_sheet 18 = .ok (.bipush (-2), 2) := by decide +kernel
theorem dX4_sheet_20 : decode cX4_sheet 20 = .ok (.istore 4, 2) := by decide +kernel
theorem dX4_sheet_22 : decode cX4_sheet 22 = .ok (.iload 4, 2) := by decide +kernel
theorem dX4_sheet_24 : decode cX4_sheet 24 = .ok (.ifCond .eq 10, 3) := by decide +kernel
theorem dX4_sheet_27 : decode cX4_sheet 27 = .ok (.aload_n 0, 1) := by decide +kernel
theorem dX4_sheet_28 : decode cX4_sheet 28 = .ok (.iload 4, 2) := by decide +kernel
theorem dX4_sheet_30 : decode cX4_sheet 30 = .ok (.invokevirtual 46, 3) := by decide +kernel
theorem dX4_sheet_33 : decode cX4_sheet 33 = .ok (.ireturn, 1) := by decide +kernel
theorem dX4_sheet_34 : decode cX4_sheet 34 = .ok (.iload_n 3, 1) := by decide +kernel
theorem dX4_sheet_35 : decode cX4_sheet 35 = .ok (.ifCond .ge 9, 3) := by decide +kernel
theorem dX4_sheet_38 : decode cX4_sheet 38 = .ok (.aload_n 0, 1) := by decide +kernel
theorem dX4_sheet_39 : decode cX4_sheet 39 = .ok (.iconst 4, 1) := by decide +kernel
theorem dX4_sheet_40 : decode cX4_sheet 40 = .ok (.invokevirtual 57, 3) := by decide +kernel
theorem dX4_sheet_43 : decode cX4_sheet 43 = .ok (.ireturn, 1) := by decide +kernel
theorem dX4_sheet_44 : decode cX4_sheet 44 = .ok (.aload_n 0, 1) := by decide +kernel
theorem dX4_sheet_45 : decode cX4_sheet 45 = .ok (.iconst 0, 1) := by decide +kernel
theorem dX4_sheet_46 : decode cX4_sheet 46 = .ok (.putfield 60, 3) := by decide +kernel
theorem dX4_sheet_49 : decode cX4_sheet 49 = .ok (.aload_n 0, 1) := by decide +kernel
theorem dX4_sheet_50 : decode cX4_sheet 50 = .ok (.getfield 13, 3) := by decide +kernel
theorem dX4_sheet_53 : decode cX4_sheet 53 = .ok (.iload_n 1, 1) := by decide +kernel
theorem dX4_sheet_54 : decode cX4_sheet 54 = .ok (.aaload, 1) := by decide +kernel
theorem dX4_sheet_55 : decode cX4_sheet 55 = .ok (.iload_n 2, 1) := by decide +kernel
theorem dX4_sheet_56 : decode cX4_sheet 56 = .ok (.iload_n 3, 1) := by decide +kernel
theorem dX4_sheet_57 : decode cX4_sheet 57 = .ok (.invokevirtual 207, 3) := by decide +kernel
theorem dX4_sheet_60 : decode cX4_sheet 60 = .ok (.iconst 1, 1) := by decide +kernel
theorem dX4_sheet_61 : decode cX4_sheet 61 = .ok (.ireturn, 1) := by decide +kernel
theorem dX4_lose_0 : decode cX4_lose 0 = .ok (.iload_n 1, 1) := by decide +kernel
theorem dX4_lose_1 : decode cX4_lose 1 = .ok (.invokestatic 210, 3) := by decide +kernel
theorem dX4_lose_4 : decode cX4_lose 4 = .ok (.ifCond .ne 5, 3) := by decide +kernel
theorem dX4_lose_7 : decode cX4_lose 7 = .ok (.iconst (-1), 1) := by decide +kernel
theorem dX4_lose_8 : decode cX4_lose 8 = .ok (.ireturn, 1) := by decide +kernel
theorem dX4_lose_9 : decode cX4_lose 9 = .ok (.aload_n 0, 1) := by decide +kernel
theorem dX4_lose_10 : decode cX4_lose 10 = .ok (.getfield 13, 3) := by decide +kernel
theorem dX4_lose_13 : decode cX4_lose 13 = .ok (.iload_n 1, 1) := by decide +kernel
theorem dX4_lose_14 : decode cX4_lose 14 = .ok (.aaload, 1) := by decide +kernel
theorem dX4_lose_15 : decode cX4_lose 15 = .ok (.invokevirtual 213, 3) := by decide +kernel
theorem dX4_lose_18 : decode cX4_lose 18 = .ok (.ifCond .ne 5, 3) := by decide +kernel
theorem dX4_lose_21 : decode cX4_lose 21 = .ok (.iconst 0, 1) := by decide +kernel
theorem dX4_lose_22 : decode cX4_lose 22 = .ok (.ireturn, 1) := by decide +kernel
theorem dX4_lose_23 : decode cX4_lose 23 = .ok (.aload_n 0, 1) := by decide +kernel
theorem dX4_lose_24 : decode cX4_lose 24 = .ok (.getfield 13, 3) := by decide +kernel
theorem dX4_lose_27 : decode cX4_lose 27 = .ok (.iload_n 1, 1) := by decide +kernel
theorem dX4_lose_28 : decode cX4_lose 28 = .ok (.aaload, 1) := by decide +kernel
theorem dX4_lose_29 : decode cX4_lose 29 = .ok (.invokevirtual 216, 3) := by decide +kernel
theorem dX4_lose_32 : decode cX4_lose 32 = .ok (.iconst 1, 1) := by decide +kernel
theorem dX4_lose_33 : decode cX4_lose 33 = .ok (.ireturn, 1) := by decide +kernel
theorem dX4_put_0 : decode cX4_put 0 = .ok (.iload_n 1, 1) := by decide +kernel
theorem dX4_put_1 : decode cX4_put 1 = .ok (.invokestatic 210, 3) := by decide +kernel
theorem dX4_put_4 : decode cX4_put 4 = .ok (.ifCond .ne 9, 3) := by decide +kernel
theorem dX4_put_7 : decode cX4_put 7 = .ok (.aload_n 0, 1) := by decide +kernel
theorem dX4_put_8 : decode cX4_put 8 = .ok (.iconst (-1), 1) := by decide +kernel
theorem dX4_put_9 : decode cX4_put 9 = .ok (.invokevirtual 46, 3) := by decide +kernel
theorem dX4_put_12 : decode cX4_put 12 = .ok (.ireturn, 1) := by decide +kernel
theorem dX4_put_13 : decode cX4_put 13 = .ok (.aload_n 0, 1) := by decide +kernel
theorem dX4_put_14 : decode cX4_put 14 = .ok (.getfield 13, 3) := by decide +kernel
theorem dX4_put_17 : decode cX4_put 17 = .ok (.iload_n 1, 1) := by decide +kernel
theorem dX4_put_18 : decode cX4_put 18 = .ok (.aaload, 1) := by decide +kernel
theorem dX4_put_19 : decode cX4_put 19 = .ok (.astore 4, 2) := by decide +kernel
theorem dX4_put_21 : decode cX4_put 21 = .ok (.aload 4, 2) := by decide +kernel
theorem dX4_put_23 : decode cX4_put 23 = .ok (.invokevirtual 213, 3) := by decide +kernel
theorem dX4_put_26 : decode cX4_put 26 = .ok (.ifCond .ne 9, 3) := by decide +kernel
theorem dX4_put_29 : decode cX4_put 29 = .ok (.aload_n 0, 1) := by decide +kernel
theorem dX4_put_30 : decode cX4_put 30 = .ok (.iconst 1, 1) := by decide +kernel
theorem dX4_put_31 : decode cX4_put 31 = .ok (.invokevirtual 57, 3) := by decide +kernel
theorem dX4_put_34 : decode cX4_put 34 = .ok (.ireturn, 1) := by decide +kernel
theorem dX4_put_35 : decode cX4_put 35 = .ok (.aload 4, 2) := by decide +kernel
theorem dX4_put_37 : decode cX4_put 37 = .ok (.iload_n 2, 1) := by decide +kernel
theorem dX4_put_38 : decode cX4_put 38 = .ok (.invokevirtual 219, 3) := by decide +kernel
theorem dX4_put_41 : decode cX4_put 41 = .ok (.ifCond .ne 9, 3) := by decide +kernel
theorem dX4_put_44 : decode cX4_put 44 = .ok (.aload_n 0, 1) := by decide +kernel
theorem dX4_put_45 : decode cX4_put 45 = .ok (.iconst 3, 1) := by decide +kernel
theorem dX4_put_46 : decode cX4_put 46 = .ok (.invokevirtual 57, 3) := by decide +kernel
theorem dX4_put_49 : decode cX4_put 49 = .ok (.ireturn, 1) := by decide +kernel
theorem dX4_put_50 : decode cX4_put 50 = .ok (.aload_n 0, 1) := by decide +kernel
theorem dX4_put_51 : decode cX4_put 51 = .ok (.iconst 0, 1) := by decide +kernel
theorem dX4_put_52 : decode cX4_put 52 = .ok (.putfield 60, 3) := by decide +kernel
theorem dX4_put_55 : decode cX4_put 55 = .ok (.aload 4, 2) := by decide +kernel
theorem dX4_put_57 : decode cX4_put 57 = .ok (.getfield 222, 3) := by decide +kernel
theorem dX4_put_60 : decode cX4_put 60 = .ok (.iload_n 2, 1) := by decide +kernel
theorem dX4_put_61 : decode cX4_put 61 = .ok (.aload 4, 2) := by decide +kernel
theorem dX4_put_63 : decode cX4_put 63 = .ok (.iload_n 3, 1) := by decide +kernel
theorem dX4_put_64 : decode cX4_put 64 = .ok (.invokevirtual 225, 3) := by decide +kernel
theorem dX4_put_67 : decode cX4_put 67 = .ok (.iastore, 1) := by decide +kernel
theorem dX4_put_68 : decode cX4_put 68 = .ok (.iconst 1, 1) := by decide +kernel
theorem dX4_put_69 : decode cX4_put 69 = .ok (.ireturn, 1) := by decide +kernel
theorem dX4_cell_0 : decode cX4_cell 0 = .ok (.iload_n 1, 1) := by decide +kernel
theorem dX4_cell_1 : decode cX4_cell 1 = .ok (.iload_n 3, 1) := by decide +kernel
theorem dX4_cell_2 : decode cX4_cell 2 = .ok (.invokestatic 42, 3) := by decide +kernel
theorem dX4_cell_5 : decode cX4_cell 5 = .ok (.ifCond .eq 8, 3) := by decide +kernel
theorem dX4_cell_8 : decode cX4_cell 8 = .ok (.aload_n 0, 1) := by decide +kernel
theorem dX4_cell_9 : decode cX4_cell 9 = .ok (.invokevirtual 147, 3) := by decide +kernel
theorem dX4_cell_12 : decode cX4_cell 12 = .ok (.lreturn, 1) := by decide +kernel
theorem dX4_cell_13 : decode cX4_cell 13 = .ok (.aload_n 0, 1) := by decide +kernel
theorem dX4_cell_14 : decode cX4_cell 14 = .ok (.getfield 13, 3) := by decide +kernel
theorem dX4_cell_17 : decode cX4_cell 17 = .ok (.iload_n 1, 1) := by decide +kernel
theorem dX4_cell_18 : decode cX4_cell 18 = .ok (.aaload, 1) := by decide +kernel
theorem dX4_cell_19 : decode cX4_cell 19 = .ok (.astore 4, 2) := by decide +kernel
theorem dX4_cell_21 : decode cX4_cell 21 = .ok (.aload 4, 2) := by decide +kernel
theorem dX4_cell_23 : decode cX4_cell 23 = .ok (.iload_n 3, 1) := by decide +kernel
theorem dX4_cell_24 : decode cX4_cell 24 = .ok (.invokevirtual 50, 3) := by decide +kernel
theorem dX4_cell_27 : decode cX4_cell 27 = .ok (.istore 5, 2) := by decide +kernel
theorem dX4_cell_29 : decode cX4_cell 29 = .ok (.iload 5, 2) := by decide +kernel
theorem dX4_cell_31 : decode cX4_cell 31 = .ok (.ifCond .ne 15, 3) := by decide +kernel
theorem dX4_cell_34 : decode cX4_cell 34 = .ok (.aload 4, 2) := by decide +kernel
theorem dX4_cell_36 : decode cX4_cell 36 = .ok (.iload_n 2, 1) := by decide +kernel
theorem dX4_cell_37 : decode cX4_cell 37 = .ok (.invokevirtual 219, 3) := by decide +kernel
theorem dX4_cell_40 : decode cX4_cell 40 = .ok (.ifCond .ne 6, 3) := by decide +kernel
theorem dX4_cell_43 : decode cX4_cell 43 = .ok (.iconst 3, 1) := by decide +kernel
theorem dX4_cell_44 : decode cX4_cell 44 = .ok (.istore 5, 2) := by decide +kernel
theorem dX4_cell_46 : decode cX4_cell 46 = .ok (.aload_n 0, 1) := by decide +kernel
theorem dX4_cell_47 : decode cX4_cell 47 = .ok (.iload 5, 2) := by decide +kernel
theorem dX4_cell_49 : decode cX4_cell 49 = .ok (.putfield 60, 3) := by decide +kernel
theorem dX4_cell_52 : decode cX4_cell 52 = .ok (.iload 5, 2) := by decide +kernel
theorem dX4_cell_54 : decode cX4_cell 54 = .ok (.ifCond .eq 9, 3) := by decide +kernel
theorem dX4_cell_57 : decode cX4_cell 57 = .ok (.ldc2_w 136, 3) := by decide +kernel
theorem dX4_cell_60 : decode cX4_cell 60 = .ok (.goto 11, 3) := by decide +kernel
theorem dX4_cell_63 : decode cX4_cell 63 = .ok (.aload 4, 2) := by decide +kernel
theorem dX4_cell_65 : decode cX4_cell 65 = .ok (.getfield 222, 3) := by decide +kernel
theorem dX4_cell_68 : decode cX4_cell 68 = .ok (.iload_n 2, 1) := by decide +kernel
theorem dX4_cell_69 : decode cX4_cell 69 = .ok (.iaload, 1) := by decide +kernel
theorem dX4_cell_70 : decode cX4_cell 70 = .ok (.i2l, 1) := by decide +kernel
theorem dX4_cell_71 : decode cX4_cell 71 = .ok (.lreturn, 1) := by decide +kernel
theorem dX4_copy_0 : decode cX4_copy 0 = .ok (.iload_n 1, 1) := by decide +kernel
theorem dX4_copy_1 : decode cX4_copy 1 = .ok (.invokestatic 210, 3) := by decide +kernel
theorem dX4_copy_4 : decode cX4_copy 4 = .ok (.ifCond .eq 10, 3) := by decide +kernel
theorem dX4_copy_7 : decode cX4_copy 7 = .ok (.iload_n 3, 1) := by decide +kernel
theorem dX4_copy_8 : decode cX4_copy 8 = .ok (.invokestatic 210, 3) := by decide +kernel
theorem dX4_copy_11 : decode cX4_copy 11 = .ok (.ifCond .ne 9, 3) := by decide +kernel
theorem dX4_copy_14 : decode cX4_copy 14 = .ok (.aload_n 0, 1) := by decide +kernel
theorem dX4_copy_15 : decode cX4_copy 15 = .ok (.iconst (-1), 1) := by decide +kernel
theorem dX4_copy_16 : decode cX4_copy 16 = .ok (.invokevirtual 46, 3) := by decide +kernel
theorem dX4_copy_19 : decode cX4_copy 19 = .ok (.ireturn, 1) := by decide +kernel
theorem dX4_copy_20 : decode cX4_copy 20 = .ok (.aload_n 0, 1) := by decide +kernel
theorem dX4_copy_21 : decode cX4_copy 21 = .ok (.getfield 13, 3) := by decide +kernel
theorem dX4_copy_24 : decode cX4_copy 24 = .ok (.iload_n 1, 1) := by decide +kernel
theorem dX4_copy_25 : decode cX4_copy 25 = .ok (.aaload, 1) := by decide +kernel
theorem dX4_copy_26 : decode cX4_copy 26 = .ok (.astore 6, 2) := by decide +kernel
theorem dX4_copy_28 : decode cX4_copy 28 = .ok (.aload_n 0, 1) := by decide +kernel
theorem dX4_copy_29 : decode cX4_copy 29 = .ok (.getfield 13, 3) := by decide +kernel
theorem dX4_copy_32 : decode cX4_copy 32 = .ok (.iload_n 3, 1) := by decide +kernel
theorem dX4_copy_33 : decode cX4_copy 33 = .ok (.aaload, 1) := by decide +kernel
theorem dX4_copy_34 : decode cX4_copy 34 = .ok (.astore 7, 2) := by decide +kernel
theorem dX4_copy_36 : decode cX4_copy 36 = .ok (.aload 6, 2) := by decide +kernel
theorem dX4_copy_38 : decode cX4_copy 38 = .ok (.invokevirtual 213, 3) := by decide +kernel
theorem dX4_copy_41 : decode cX4_copy 41 = .ok (.ifCond .eq 11, 3) := by decide +kernel
theorem dX4_copy_44 : decode cX4_copy 44 = .ok (.aload 7, 2) := by decide +kernel
theorem dX4_copy_46 : decode cX4_copy 46 = .ok (.invokevirtual 213, 3) := by decide +kernel
theorem dX4_copy_49 : decode cX4_copy 49 = .ok (.ifCond .ne 9, 3) := by decide +kernel
theorem dX4_copy_52 : decode cX4_copy 52 = .ok (.aload_n 0, 1) := by decide +kernel
theorem dX4_copy_53 : decode cX4_copy 53 = .ok (.iconst 1, 1) := by decide +kernel
theorem dX4_copy_54 : decode cX4_copy 54 = .ok (.invokevirtual 57, 3) := by decide +kernel
theorem dX4_copy_57 : decode cX4_copy 57 = .ok (.ireturn, 1) := by decide +kernel
theorem dX4_copy_58 : decode cX4_copy 58 = .ok (.aload 6, 2) := by decide +kernel
theorem dX4_copy_60 : decode cX4_copy 60 = .ok (.getfield 228, 3) := by decide +kernel
theorem dX4_copy_63 : decode cX4_copy 63 = .ok (.aload 7, 2) := by decide +kernel
theorem dX4_copy_65 : decode cX4_copy 65 = .ok (.getfield 228, 3) := by decide +kernel
theorem dX4_copy_68 : decode cX4_copy 68 = .ok (.if_icmp .eq 9, 3) := by decide +kernel
theorem dX4_copy_71 : decode cX4_copy 71 = .ok (.aload_n 0, 1) := by decide +kernel
theorem dX4_copy_72 : decode cX4_copy 72 = .ok (.iconst 2, 1) := by decide +kernel
theorem dX4_copy_73 : decode cX4_copy 73 = .ok (.invokevirtual 57, 3) := by decide +kernel
theorem dX4_copy_76 : decode cX4_copy 76 = .ok (.ireturn, 1) := by decide +kernel
theorem dX4_copy_77 : decode cX4_copy 77 = .ok (.aload 6, 2) := by decide +kernel
theorem dX4_copy_79 : decode cX4_copy 79 = .ok (.iload_n 2, 1) := by decide +kernel
theorem dX4_copy_80 : decode cX4_copy 80 = .ok (.iload 5, 2) := by decide +kernel
theorem dX4_copy_82 : decode cX4_copy 82 = .ok (.invokevirtual 53, 3) := by decide +kernel
theorem dX4_copy_85 : decode cX4_copy 85 = .ok (.ifCond .eq 15, 3) := by decide +kernel
theorem dX4_copy_88 : decode cX4_copy 88 = .ok (.aload 7, 2) := by decide +kernel
theorem dX4_copy_90 : decode cX4_copy 90 = .ok (.iload 4, 2) := by decide +kernel
theorem dX4_copy_92 : decode cX4_copy 92 = .ok (.iload 5, 2) := by decide +kernel
theorem dX4_copy_94 : decode cX4_copy 94 = .ok (.invokevirtual 53, 3) := by decide +kernel
theorem dX4_copy_97 : decode cX4_copy 97 = .ok (.ifCond .ne 9, 3) := by decide +kernel
theorem dX4_copy_100 : decode cX4_copy 100 = .ok (.aload_n 0, 1) := by decide +kernel
theorem dX4_copy_101 : decode cX4_copy 101 = .ok (.iconst 3, 1) := by decide +kernel
theorem dX4_copy_102 : decode cX4_copy 102 = .ok (.invokevirtual 57, 3) := by decide +kernel
theorem dX4_copy_105 : decode cX4_copy 105 = .ok (.ireturn, 1) := by decide +kernel
theorem dX4_copy_106 : decode cX4_copy 106 = .ok (.aload_n 0, 1) := by decide +kernel
theorem dX4_copy_107 : decode cX4_copy 107 = .ok (.iconst 0, 1) := by decide +kernel
theorem dX4_copy_108 : decode cX4_copy 108 = .ok (.putfield 60, 3) := by decide +kernel
theorem dX4_copy_111 : decode cX4_copy 111 = .ok (.aload 6, 2) := by decide +kernel
theorem dX4_copy_113 : decode cX4_copy 113 = .ok (.getfield 222, 3) := by decide +kernel
theorem dX4_copy_116 : decode cX4_copy 116 = .ok (.iload_n 2, 1) := by decide +kernel
theorem dX4_copy_117 : decode cX4_copy 117 = .ok (.aload 7, 2) := by decide +kernel
theorem dX4_copy_119 : decode cX4_copy 119 = .ok (.getfield 222, 3) := by decide +kernel
theorem dX4_copy_122 : decode cX4_copy 122 = .ok (.iload 4, 2) := by decide +kernel
theorem dX4_copy_124 : decode cX4_copy 124 = .ok (.iload 5, 2) := by decide +kernel
theorem dX4_copy_126 : decode cX4_copy 126 = .ok (.invokestatic 231, 3) := by decide +kernel
theorem dX4_copy_129 : decode cX4_copy 129 = .ok (.iload 5, 2) := by decide +kernel
theorem dX4_copy_131 : decode cX4_copy 131 = .ok (.ireturn, 1) := by decide +kernel
theorem dX4_tell_0 : decode cX4_tell 0 = .ok (.aload_n 0, 1) := by decide +kernel
theorem dX4_tell_1 : decode cX4_tell 1 = .ok (.getfield 35, 3) := by decide +kernel
theorem dX4_tell_4 : decode cX4_tell 4 = .ok (.iload_n 1, 1) := by decide +kernel
theorem dX4_tell_5 : decode cX4_tell 5 = .ok (.invokevirtual 86, 3) := by decide +kernel
theorem dX4_tell_8 : decode cX4_tell 8 = .ok (.ifCond .ne 5, 3) := by decide +kernel
theorem dX4_tell_11 : decode cX4_tell 11 = .ok (.iconst (-1), 1) := by decide +kernel
theorem dX4_tell_12 : decode cX4_tell 12 = .ok (.ireturn, 1) := by decide +kernel
theorem dX4_tell_13 : decode cX4_tell 13 = .ok (.aload_n 0, 1) := by decide +kernel
theorem dX4_tell_14 : decode cX4_tell 14 = .ok (.getfield 35, 3) := by decide +kernel
theorem dX4_tell_17 : decode cX4_tell 17 = .ok (.getfield 92, 3) := by decide +kernel
theorem dX4_tell_20 : decode cX4_tell 20 = .ok (.iload_n 1, 1) := by decide +kernel
theorem dX4_tell_21 : decode cX4_tell 21 = .ok (.iaload, 1) := by decide +kernel
theorem dX4_tell_22 : decode cX4_tell 22 = .ok (.istore_n 2, 1) := by decide +kernel
theorem dX4_tell_23 : decode cX4_tell 23 = .ok (.aload_n 0, 1) := by decide +kernel
theorem dX4_tell_24 : decode cX4_tell 24 = .ok (.getfield 35, 3) := by decide +kernel
theorem dX4_tell_27 : decode cX4_tell 27 = .ok (.getfield 89, 3) := by decide +kernel
theorem dX4_tell_30 : decode cX4_tell 30 = .ok (.iload_n 1, 1) := by decide +kernel
theorem dX4_tell_31 : decode cX4_tell 31 = .ok (.iaload, 1) := by decide +kernel
theorem dX4_tell_32 : decode cX4_tell 32 = .ok (.lookupswitch 40 #[(1, 34), (2, 28)], 28) := by decide +kernel
theorem dX4_tell_60 : decode cX4_tell 60 = .ok (.aload_n 0, 1) := by decide +kernel
theorem dX4_tell_61 : decode cX4_tell 61 = .ok (.iload_n 2, 1) := by decide +kernel
theorem dX4_tell_62 : decode cX4_tell 62 = .ok (.invokevirtual 237, 3) := by decide +kernel
theorem dX4_tell_65 : decode cX4_tell 65 = .ok (.ireturn, 1) := by decide +kernel
theorem dX4_tell_66 : decode cX4_tell 66 = .ok (.aload_n 0, 1) := by decide +kernel
theorem dX4_tell_67 : decode cX4_tell 67 = .ok (.iload_n 2, 1) := by decide +kernel
theorem dX4_tell_68 : decode cX4_tell 68 = .ok (.invokevirtual 240, 3) := by decide +kernel
theorem dX4_tell_71 : decode cX4_tell 71 = .ok (.ireturn, 1) := by decide +kernel
theorem dX4_tell_72 : decode cX4_tell 72 = .ok (.aload_n 0, 1) := by decide +kernel
theorem dX4_tell_73 : decode cX4_tell 73 = .ok (.iload_n 2, 1) := by decide +kernel
theorem dX4_tell_74 : decode cX4_tell 74 = .ok (.invokevirtual 243, 3) := by decide +kernel
theorem dX4_tell_77 : decode cX4_tell 77 = .ok (.ireturn, 1) := by decide +kernel
theorem dX4_hush_0 : decode cX4_hush 0 = .ok (.aload_n 0, 1) := by decide +kernel
theorem dX4_hush_1 : decode cX4_hush 1 = .ok (.getfield 35, 3) := by decide +kernel
theorem dX4_hush_4 : decode cX4_hush 4 = .ok (.iload_n 1, 1) := by decide +kernel
theorem dX4_hush_5 : decode cX4_hush 5 = .ok (.invokevirtual 86, 3) := by decide +kernel
theorem dX4_hush_8 : decode cX4_hush 8 = .ok (.ifCond .ne 5, 3) := by decide +kernel
theorem dX4_hush_11 : decode cX4_hush 11 = .ok (.iconst (-1), 1) := by decide +kernel
theorem dX4_hush_12 : decode cX4_hush 12 = .ok (.ireturn, 1) := by decide +kernel
theorem dX4_hush_13 : decode cX4_hush 13 = .ok (.aload_n 0, 1) := by decide +kernel
theorem dX4_hush_14 : decode cX4_hush 14 = .ok (.getfield 35, 3) := by decide +kernel
theorem dX4_hush_17 : decode cX4_hush 17 = .ok (.getfield 89, 3) := by decide +kernel
theorem dX4_hush_20 : decode cX4_hush 20 = .ok (.iload_n 1, 1) := by decide +kernel
theorem dX4_hush_21 : decode cX4_hush 21 = .ok (.iaload, 1) := by decide +kernel
theorem dX4_hush_22 : decode cX4_hush 22 = .ok (.iconst 2, 1) := by decide +kernel
theorem dX4_hush_23 : decode cX4_hush 23 = .ok (.if_icmp .ne 11, 3) := by decide +kernel
theorem dX4_hush_26 : decode cX4_hush 26 = .ok (.aload_n 0, 1) := by decide +kernel
theorem dX4_hush_27 : decode cX4_hush 27 = .ok (.iconst 5, 1) := by decide +kernel
theorem dX4_hush_28 : decode cX4_hush 28 = .ok (.invokevirtual 246, 3) := by decide +kernel
theorem dX4_hush_31 : decode cX4_hush 31 = .ok (.bipush 80, 2) := by decide +kernel
theorem dX4_hush_33 : decode cX4_hush 33 = .ok (.ireturn, 1) := by decide +kernel
theorem dX4_hush_34 : decode cX4_hush 34 = .ok (.aload_n 0, 1) := by decide +kernel
theorem dX4_hush_35 : decode cX4_hush 35 = .ok (.iconst 4, 1) := by decide +kernel
theorem dX4_hush_36 : decode cX4_hush 36 = .ok (.invokevirtual 246, 3) := by decide +kernel
theorem dX4_hush_39 : decode cX4_hush 39 = .ok (.iload_n 1, 1) := by decide +kernel
theorem dX4_hush_40 : decode cX4_hush 40 = .ok (.ireturn, 1) := by decide +kernel
theorem dX4_as_0 : decode cX4_as 0 = .ok (.aload_n 0, 1) := by decide +kernel
theorem dX4_as_1 : decode cX4_as 1 = .ok (.getfield 35, 3) := by decide +kernel
theorem dX4_as_4 : decode cX4_as 4 = .ok (.iload_n 1, 1) := by decide +kernel
theorem dX4_as_5 : decode cX4_as 5 = .ok (.invokevirtual 86, 3) := by decide +kernel
theorem dX4_as_8 : decode cX4_as 8 = .ok (.ifCond .ne 9, 3) := by decide +kernel
theorem dX4_as_11 : decode cX4_as 11 = .ok (.aload_n 0, 1) := by decide +kernel
theorem dX4_as_12 : decode cX4_as 12 = .ok (.iconst (-1), 1) := by decide +kernel
theorem dX4_as_13 : decode cX4_as 13 = .ok (.invokevirtual 46, 3) := by decide +kernel
theorem dX4_as_16 : decode cX4_as 16 = .ok (.ireturn, 1) := by decide +kernel
theorem dX4_as_17 : decode cX4_as 17 = .ok (.iload_n 2, 1) := by decide +kernel
theorem dX4_as_18 : decode cX4_as 18 = .ok (.iconst 0, 1) := by decide +kernel
theorem dX4_as_19 : decode cX4_as 19 = .ok (.iconst 2, 1) := by decide +kernel
theorem dX4_as_20 : decode cX4_as 20 = .ok (.invokestatic 113, 3) := by decide +kernel
theorem dX4_as_23 : decode cX4_as 23 = .ok (.ifCond .ne 10, 3) := by decide +kernel
theorem dX4_as_26 : decode cX4_as 26 = .ok (.aload_n 0, 1) := by decide +kernel
theorem dX4_as_27 : decode cX4_as 27 = .ok (.bipush (-2), 2) := by decide +kernel
theorem dX4_as_29 : decode cX4_as 29 = .ok (.invokevirtual 46, 3) := by decide +kernel
theorem dX4_as_32 : decode cX4_as 32 = .ok (.ireturn, 1) := by decide +kernel
theorem dX4_as_33 : decode cX4_as 33 = .ok (.aload_n 0, 1) := by decide +kernel
theorem dX4_as_34 : decode cX4_as 34 = .ok (.getfield 35, 3) := by decide +kernel
theorem dX4_as_37 : decode cX4_as 37 = .ok (.getfield 89, 3) := by decide +kernel
theorem dX4_as_40 : decode cX4_as 40 = .ok (.iload_n 1, 1) := by decide +kernel
theorem dX4_as_41 : decode cX4_as 41 = .ok (.iaload, 1) := by decide +kernel
theorem dX4_as_42 : decode cX4_as 42 = .ok (.iload_n 2, 1) := by decide +kernel
theorem dX4_as_43 : decode cX4_as 43 = .ok (.if_icmp .ge 9, 3) := by decide +kernel
theorem dX4_as_46 : decode cX4_as 46 = .ok (.aload_n 0, 1) := by decide +kernel
theorem dX4_as_47 : decode cX4_as 47 = .ok (.iconst 2, 1) := by decide +kernel
theorem dX4_as_48 : decode cX4_as 48 = .ok (.invokevirtual 57, 3) := by decide +kernel
theorem dX4_as_51 : decode cX4_as 51 = .ok (.ireturn, 1) := by decide +kernel
theorem dX4_as_52 : decode cX4_as 52 = .ok (.aload_n 0, 1) := by decide +kernel
theorem dX4_as_53 : decode cX4_as 53 = .ok (.iconst 0, 1) := by decide +kernel
theorem dX4_as_54 : decode cX4_as 54 = .ok (.putfield 60, 3) := by decide +kernel
theorem dX4_as_57 : decode cX4_as 57 = .ok (.iconst 1, 1) := by decide +kernel
theorem dX4_as_58 : decode cX4_as 58 = .ok (.ireturn, 1) := by decide +kernel
theorem dX4_trace_0 : decode cX4_trace 0 = .ok (.aload_n 0, 1) := by decide +kernel
theorem dX4_trace_1 : decode cX4_trace 1 = .ok (.getfield 249, 3) := by decide +kernel
theorem dX4_trace_4 : decode cX4_trace 4 = .ok (.ireturn, 1) := by decide +kernel
theorem dX4_fault_0 : decode cX4_fault 0 = .ok (.aload_n 0, 1) := by decide +kernel
theorem dX4_fault_1 : decode cX4_fault 1 = .ok (.getfield 60, 3) := by decide +kernel
theorem dX4_fault_4 : decode cX4_fault 4 = .ok (.ireturn, 1) := by decide +kernel
theorem dX4_many_0 : decode cX4_many 0 = .ok (.iload_n 1, 1) := by decide +kernel
theorem dX4_many_1 : decode cX4_many 1 = .ok (.tableswitch 75 0 4 #[35, 43, 51, 59, 67], 35) := by decide +kernel
theorem dX4_many_36 : decode cX4_many 36 = .ok (.aload_n 0, 1) := by decide +kernel
theorem dX4_many_37 : decode cX4_many 37 = .ok (.getfield 35, 3) := by decide +kernel
theorem dX4_many_40 : decode cX4_many 40 = .ok (.getfield 72, 3) := by decide +kernel
theorem dX4_many_43 : decode cX4_many 43 = .ok (.ireturn, 1) := by decide +kernel
theorem dX4_many_44 : decode cX4_many 44 = .ok (.aload_n 0, 1) := by decide +kernel
theorem dX4_many_45 : decode cX4_many 45 = .ok (.getfield 35, 3) := by decide +kernel
theorem dX4_many_48 : decode cX4_many 48 = .ok (.getfield 179, 3) := by decide +kernel
theorem dX4_many_51 : decode cX4_many 51 = .ok (.ireturn, 1) := by decide +kernel
theorem dX4_many_52 : decode cX4_many 52 = .ok (.aload_n 0, 1) := by decide +kernel
theorem dX4_many_53 : decode cX4_many 53 = .ok (.getfield 35, 3) := by decide +kernel
theorem dX4_many_56 : decode cX4_many 56 = .ok (.getfield 121, 3) := by decide +kernel
theorem dX4_many_59 : decode cX4_many 59 = .ok (.ireturn, 1) := by decide +kernel
theorem dX4_many_60 : decode cX4_many 60 = .ok (.aload_n 0, 1) := by decide +kernel
theorem dX4_many_61 : decode cX4_many 61 = .ok (.getfield 35, 3) := by decide +kernel
theorem dX4_many_64 : decode cX4_many 64 = .ok (.getfield 124, 3) := by decide +kernel
theorem dX4_many_67 : decode cX4_many 67 = .ok (.ireturn, 1) := by decide +kernel
theorem dX4_many_68 : decode cX4_many 68 = .ok (.aload_n 0, 1) := by decide +kernel
theorem dX4_many_69 : decode cX4_many 69 = .ok (.getfield 35, 3) := by decide +kernel
theorem dX4_many_72 : decode cX4_many 72 = .ok (.getfield 192, 3) := by decide +kernel
theorem dX4_many_75 : decode cX4_many 75 = .ok (.ireturn, 1) := by decide +kernel
theorem dX4_many_76 : decode cX4_many 76 = .ok (.bipush (-2), 2) := by decide +kernel
theorem dX4_many_78 : decode cX4_many 78 = .ok (.ireturn, 1) := by decide +kernel
theorem dX4_isWithin_0 : decode cX4_isWithin 0 = .ok (.iload_n 0, 1) := by decide +kernel
theorem dX4_isWithin_1 : decode cX4_isWithin 1 = .ok (.iload_n 1, 1) := by decide +kernel
theorem dX4_isWithin_2 : decode cX4_isWithin 2 = .ok (.if_icmp .lt 12, 3) := by decide +kernel
theorem dX4_isWithin_5 : decode cX4_isWithin 5 = .ok (.iload_n 0, 1) := by decide +kernel
theorem dX4_isWithin_6 : decode cX4_isWithin 6 = .ok (.iload_n 2, 1) := by decide +kernel
theorem dX4_isWithin_7 : decode cX4_isWithin 7 = .ok (.if_icmp .gt 7, 3) := by decide +kernel
theorem dX4_isWithin_10 : decode cX4_isWithin 10 = .ok (.iconst 1, 1) := by decide +kernel
theorem dX4_isWithin_11 : decode cX4_isWithin 11 = .ok (.goto 4, 3) := by decide +kernel
theorem dX4_isWithin_14 : decode cX4_isWithin 14 = .ok (.iconst 0, 1) := by decide +kernel
theorem dX4_isWithin_15 : decode cX4_isWithin 15 = .ok (.ireturn, 1) := by decide +kernel
theorem dX4_isSheet_0 : decode cX4_isSheet 0 = .ok (.iload_n 0, 1) := by decide +kernel
theorem dX4_isSheet_1 : decode cX4_isSheet 1 = .ok (.iconst 0, 1) := by decide +kernel
theorem dX4_isSheet_2 : decode cX4_isSheet 2 = .ok (.iconst 3, 1) := by decide +kernel
theorem dX4_isSheet_3 : decode cX4_isSheet 3 = .ok (.invokestatic 113, 3) := by decide +kernel
theorem dX4_isSheet_6 : decode cX4_isSheet 6 = .ok (.ireturn, 1) := by decide +kernel
theorem dX4_refusalOfRow_0 : decode cX4_refusalOfRow 0 = .ok (.iload_n 0, 1) := by decide +kernel
theorem dX4_refusalOfRow_1 : decode cX4_refusalOfRow 1 = .ok (.invokestatic 210, 3) := by decide +kernel
theorem dX4_refusalOfRow_4 : decode cX4_refusalOfRow 4 = .ok (.ifCond .ne 5, 3) := by decide +kernel
theorem dX4_refusalOfRow_7 : decode cX4_refusalOfRow 7 = .ok (.iconst (-1), 1) := by decide +kernel
theorem dX4_refusalOfRow_8 : decode cX4_refusalOfRow 8 = .ok (.ireturn, 1) := by decide +kernel
theorem dX4_refusalOfRow_9 : decode cX4_refusalOfRow 9 = .ok (.iload_n 1, 1) := by decide +kernel
theorem dX4_refusalOfRow_10 : decode cX4_refusalOfRow 10 = .ok (.iconst 0, 1) := by decide +kernel
theorem dX4_refusalOfRow_11 : decode cX4_refusalOfRow 11 = .ok (.iconst 2, 1) := by decide +kernel
theorem dX4_refusalOfRow_12 : decode cX4_refusalOfRow 12 = .ok (.invokestatic 113, 3) := by decide +kernel
theorem dX4_refusalOfRow_15 : decode cX4_refusalOfRow 15 = .ok (.ifCond .eq 7, 3) := by decide +kernel
theorem dX4_refusalOfRow_18 : decode cX4_refusalOfRow 18 = .ok (.iconst 0, 1) := by decide +kernel
theorem dX4_refusalOfRow_19 : decode cX4_refusalOfRow 19 = .ok (.goto 5, 3) := by decide +kernel
theorem dX4_refusalOfRow_22 : decode cX4_refusalOfRow 22 = .ok (.bipush (-2), 2) := by decide +kernel
theorem dX4_refusalOfRow_24 : decode cX4_refusalOfRow 24 = .ok (.ireturn, 1) := by decide +kernel
theorem dX4_refused_0 : decode cX4_refused 0 = .ok (.aload_n 0, 1) := by decide +kernel
theorem dX4_refused_1 : decode cX4_refused 1 = .ok (.iconst 0, 1) := by decide +kernel
theorem dX4_refused_2 : decode cX4_refused 2 = .ok (.putfield 60, 3) := by decide +kernel
theorem dX4_refused_5 : decode cX4_refused 5 = .ok (.iload_n 1, 1) := by decide +kernel
theorem dX4_refused_6 : decode cX4_refused 6 = .ok (.ireturn, 1) := by decide +kernel
theorem dX4_lostUnfaulted_0 : decode cX4_lostUnfaulted 0 = .ok (.aload_n 0, 1) := by decide +kernel
theorem dX4_lostUnfaulted_1 : decode cX4_lostUnfaulted 1 = .ok (.iconst 0, 1) := by decide +kernel
theorem dX4_lostUnfaulted_2 : decode cX4_lostUnfaulted 2 = .ok (.putfield 60, 3) := by decide +kernel
theorem dX4_lostUnfaulted_5 : decode cX4_lostUnfaulted 5 = .ok (.ldc2_w 136, 3) := by decide +kernel
theorem dX4_lostUnfaulted_8 : decode cX4_lostUnfaulted 8 = .ok (.lreturn, 1) := by decide +kernel
theorem dX4_faulted_0 : decode cX4_faulted 0 = .ok (.aload_n 0, 1) := by decide +kernel
theorem dX4_faulted_1 : decode cX4_faulted 1 = .ok (.iload_n 1, 1) := by decide +kernel
theorem dX4_faulted_2 : decode cX4_faulted 2 = .ok (.putfield 60, 3) := by decide +kernel
theorem dX4_faulted_5 : decode cX4_faulted 5 = .ok (.bipush (-10), 2) := by decide +kernel
theorem dX4_faulted_7 : decode cX4_faulted 7 = .ok (.iload_n 1, 1) := by decide +kernel
theorem dX4_faulted_8 : decode cX4_faulted 8 = .ok (.isub, 1) := by decide +kernel
theorem dX4_faulted_9 : decode cX4_faulted 9 = .ok (.ireturn, 1) := by decide +kernel
theorem dX4_takeWay_0 : decode cX4_takeWay 0 = .ok (.iload_n 1, 1) := by decide +kernel
theorem dX4_takeWay_1 : decode cX4_takeWay 1 = .ok (.iload_n 2, 1) := by decide +kernel
theorem dX4_takeWay_2 : decode cX4_takeWay 2 = .ok (.invokestatic 42, 3) := by decide +kernel
theorem dX4_takeWay_5 : decode cX4_takeWay 5 = .ok (.istore 5, 2) := by decide +kernel
theorem dX4_takeWay_7 : decode cX4_takeWay 7 = .ok (.iload 5, 2) := by decide +kernel
theorem dX4_takeWay_9 : decode cX4_takeWay 9 = .ok (.ifCond .ne 18, 3) := by decide +kernel
theorem dX4_takeWay_12 : decode cX4_takeWay 12 = .ok (.iload 4, 2) := by decide +kernel
theorem dX4_takeWay_14 : decode cX4_takeWay 14 = .ok (.iconst 0, 1) := by decide +kernel
theorem dX4_takeWay_15 : decode cX4_takeWay 15 = .ok (.bipush 8, 2) := by decide +kernel
theorem dX4_takeWay_17 : decode cX4_takeWay 17 = .ok (.invokestatic 113, 3) := by decide +kernel
theorem dX4_takeWay_20 : decode cX4_takeWay 20 = .ok (.ifCond .ne 7, 3) := by decide +kernel
theorem dX4_takeWay_23 : decode cX4_takeWay 23 = .ok (.bipush (-2), 2) := by decide +kernel
theorem dX4_takeWay_25 : decode cX4_takeWay 25 = .ok (.istore 5, 2) := by decide +kernel
theorem dX4_takeWay_27 : decode cX4_takeWay 27 = .ok (.iload 5, 2) := by decide +kernel
theorem dX4_takeWay_29 : decode cX4_takeWay 29 = .ok (.ifCond .ne 17, 3) := by decide +kernel
theorem dX4_takeWay_32 : decode cX4_takeWay 32 = .ok (.aload_n 0, 1) := by decide +kernel
theorem dX4_takeWay_33 : decode cX4_takeWay 33 = .ok (.getfield 35, 3) := by decide +kernel
theorem dX4_takeWay_36 : decode cX4_takeWay 36 = .ok (.invokevirtual 117, 3) := by decide +kernel
theorem dX4_takeWay_39 : decode cX4_takeWay 39 = .ok (.ifCond .eq 7, 3) := by decide +kernel
theorem dX4_takeWay_42 : decode cX4_takeWay 42 = .ok (.bipush (-3), 2) := by decide +kernel
theorem dX4_takeWay_44 : decode cX4_takeWay 44 = .ok (.istore 5, 2) := by decide +kernel
theorem dX4_takeWay_46 : decode cX4_takeWay 46 = .ok (.iload 5, 2) := by decide +kernel
theorem dX4_takeWay_48 : decode cX4_takeWay 48 = .ok (.ifCond .eq 10, 3) := by decide +kernel
theorem dX4_takeWay_51 : decode cX4_takeWay 51 = .ok (.aload_n 0, 1) := by decide +kernel
theorem dX4_takeWay_52 : decode cX4_takeWay 52 = .ok (.iload 5, 2) := by decide +kernel
theorem dX4_takeWay_54 : decode cX4_takeWay 54 = .ok (.invokevirtual 46, 3) := by decide +kernel
theorem dX4_takeWay_57 : decode cX4_takeWay 57 = .ok (.ireturn, 1) := by decide +kernel
theorem dX4_takeWay_58 : decode cX4_takeWay 58 = .ok (.aload_n 0, 1) := by decide +kernel
theorem dX4_takeWay_59 : decode cX4_takeWay 59 = .ok (.getfield 13, 3) := by decide +kernel
theorem dX4_takeWay_62 : decode cX4_takeWay 62 = .ok (.iload_n 1, 1) := by decide +kernel
theorem dX4_takeWay_63 : decode cX4_takeWay 63 = .ok (.aaload, 1) := by decide +kernel
theorem dX4_takeWay_64 : decode cX4_takeWay 64 = .ok (.astore 6, 2) := by decide +kernel
theorem dX4_takeWay_66 : decode cX4_takeWay 66 = .ok (.aload 6, 2) := by decide +kernel
theorem dX4_takeWay_68 : decode cX4_takeWay 68 = .ok (.iload_n 2, 1) := by decide +kernel
theorem dX4_takeWay_69 : decode cX4_takeWay 69 = .ok (.invokevirtual 50, 3) := by decide +kernel
theorem dX4_takeWay_72 : decode cX4_takeWay 72 = .ok (.istore 7, 2) := by decide +kernel
theorem dX4_takeWay_74 : decode cX4_takeWay 74 = .ok (.iload 7, 2) := by decide +kernel
theorem dX4_takeWay_76 : decode cX4_takeWay 76 = .ok (.ifCond .ne 17, 3) := by decide +kernel
theorem dX4_takeWay_79 : decode cX4_takeWay 79 = .ok (.aload 6, 2) := by decide +kernel
theorem dX4_takeWay_81 : decode cX4_takeWay 81 = .ok (.iload_n 3, 1) := by decide +kernel
theorem dX4_takeWay_82 : decode cX4_takeWay 82 = .ok (.iload 4, 2) := by decide +kernel
theorem dX4_takeWay_84 : decode cX4_takeWay 84 = .ok (.invokevirtual 53, 3) := by decide +kernel
theorem dX4_takeWay_87 : decode cX4_takeWay 87 = .ok (.ifCond .ne 6, 3) := by decide +kernel
theorem dX4_takeWay_90 : decode cX4_takeWay 90 = .ok (.iconst 3, 1) := by decide +kernel
theorem dX4_takeWay_91 : decode cX4_takeWay 91 = .ok (.istore 7, 2) := by decide +kernel
theorem dX4_takeWay_93 : decode cX4_takeWay 93 = .ok (.iload 7, 2) := by decide +kernel
theorem dX4_takeWay_95 : decode cX4_takeWay 95 = .ok (.ifCond .eq 10, 3) := by decide +kernel
theorem dX4_takeWay_98 : decode cX4_takeWay 98 = .ok (.aload_n 0, 1) := by decide +kernel
theorem dX4_takeWay_99 : decode cX4_takeWay 99 = .ok (.iload 7, 2) := by decide +kernel
theorem dX4_takeWay_101 : decode cX4_takeWay 101 = .ok (.invokevirtual 57, 3) := by decide +kernel
theorem dX4_takeWay_104 : decode cX4_takeWay 104 = .ok (.ireturn, 1) := by decide +kernel
theorem dX4_takeWay_105 : decode cX4_takeWay 105 = .ok (.aload_n 0, 1) := by decide +kernel
theorem dX4_takeWay_106 : decode cX4_takeWay 106 = .ok (.iconst 0, 1) := by decide +kernel
theorem dX4_takeWay_107 : decode cX4_takeWay 107 = .ok (.putfield 60, 3) := by decide +kernel
theorem dX4_takeWay_110 : decode cX4_takeWay 110 = .ok (.aload_n 0, 1) := by decide +kernel
theorem dX4_takeWay_111 : decode cX4_takeWay 111 = .ok (.getfield 28, 3) := by decide +kernel
theorem dX4_takeWay_114 : decode cX4_takeWay 114 = .ok (.invokevirtual 182, 3) := by decide +kernel
theorem dX4_takeWay_117 : decode cX4_takeWay 117 = .ok (.iload_n 3, 1) := by decide +kernel
theorem dX4_takeWay_118 : decode cX4_takeWay 118 = .ok (.istore 8, 2) := by decide +kernel
theorem dX4_takeWay_120 : decode cX4_takeWay 120 = .ok (.iload 8, 2) := by decide +kernel
theorem dX4_takeWay_122 : decode cX4_takeWay 122 = .ok (.iload_n 3, 1) := by decide +kernel
theorem dX4_takeWay_123 : decode cX4_takeWay 123 = .ok (.iload 4, 2) := by decide +kernel
theorem dX4_takeWay_125 : decode cX4_takeWay 125 = .ok (.iadd, 1) := by decide +kernel
theorem dX4_takeWay_126 : decode cX4_takeWay 126 = .ok (.if_icmp .ge 44, 3) := by decide +kernel
theorem dX4_takeWay_129 : decode cX4_takeWay 129 = .ok (.aload_n 0, 1) := by decide +kernel
theorem dX4_takeWay_130 : decode cX4_takeWay 130 = .ok (.getfield 35, 3) := by decide +kernel
theorem dX4_takeWay_133 : decode cX4_takeWay 133 = .ok (.aload 6, 2) := by decide +kernel
theorem dX4_takeWay_135 : decode cX4_takeWay 135 = .ok (.getfield 222, 3) := by decide +kernel
theorem dX4_takeWay_138 : decode cX4_takeWay 138 = .ok (.iload 8, 2) := by decide +kernel
theorem dX4_takeWay_140 : decode cX4_takeWay 140 = .ok (.iaload, 1) := by decide +kernel
theorem dX4_takeWay_141 : decode cX4_takeWay 141 = .ok (.invokevirtual 75, 3) := by decide +kernel
theorem dX4_takeWay_144 : decode cX4_takeWay 144 = .ok (.ifCond .ne 5, 3) := by decide +kernel
theorem dX4_takeWay_147 : decode cX4_takeWay 147 = .ok (.iconst (-1), 1) := by decide +kernel
theorem dX4_takeWay_148 : decode cX4_takeWay 148 = .ok (.ireturn, 1) := by decide +kernel
theorem dX4_takeWay_149 : decode cX4_takeWay 149 = .ok (.aload_n 0, 1) := by decide +kernel
theorem dX4_takeWay_150 : decode cX4_takeWay 150 = .ok (.getfield 28, 3) := by decide +kernel
theorem dX4_takeWay_153 : decode cX4_takeWay 153 = .ok (.aload 6, 2) := by decide +kernel
theorem dX4_takeWay_155 : decode cX4_takeWay 155 = .ok (.getfield 222, 3) := by decide +kernel
theorem dX4_takeWay_158 : decode cX4_takeWay 158 = .ok (.iload 8, 2) := by decide +kernel
theorem dX4_takeWay_160 : decode cX4_takeWay 160 = .ok (.iaload, 1) := by decide +kernel
theorem dX4_takeWay_161 : decode cX4_takeWay 161 = .ok (.invokevirtual 185, 3) := by decide +kernel
theorem dX4_takeWay_164 : decode cX4_takeWay 164 = .ok (.iinc 8 1, 3) := by decide +kernel
theorem dX4_takeWay_167 : decode cX4_takeWay 167 = .ok (.goto (-47), 3) := by decide +kernel
theorem dX4_takeWay_170 : decode cX4_takeWay 170 = .ok (.iconst 0, 1) := by decide +kernel
theorem dX4_takeWay_171 : decode cX4_takeWay 171 = .ok (.ireturn, 1) := by decide +kernel
theorem dX4_cheapestDeclared_0 : decode cX4_cheapestDeclared 0 = .ok (.aload_n 0, 1) := by decide +kernel
theorem dX4_cheapestDeclared_1 : decode cX4_cheapestDeclared 1 = .ok (.getfield 35, 3) := by decide +kernel
theorem dX4_cheapestDeclared_4 : decode cX4_cheapestDeclared 4 = .ok (.getfield 127, 3) := by decide +kernel
theorem dX4_cheapestDeclared_7 : decode cX4_cheapestDeclared 7 = .ok (.istore_n 1, 1) := by decide +kernel
theorem dX4_cheapestDeclared_8 : decode cX4_cheapestDeclared 8 = .ok (.iconst 0, 1) := by decide +kernel
theorem dX4_cheapestDeclared_9 : decode cX4_cheapestDeclared 9 = .ok (.istore_n 2, 1) := by decide +kernel
theorem dX4_cheapestDeclared_10 : decode cX4_cheapestDeclared 10 = .ok (.ldc2_w 177, 3) := by decide +kernel
theorem dX4_cheapestDeclared_13 : decode cX4_cheapestDeclared 13 = .ok (.lstore_n 3, 1) := by decide +kernel
theorem dX4_cheapestDeclared_14 : decode cX4_cheapestDeclared 14 = .ok (.aload_n 0, 1) := by decide +kernel
theorem dX4_cheapestDeclared_15 : decode cX4_cheapestDeclared 15 = .ok (.getfield 35, 3) := by decide +kernel
theorem dX4_cheapestDeclared_18 : decode cX4_cheapestDeclared 18 = .ok (.invokevirtual 201, 3) := by decide +kernel
theorem dX4_cheapestDeclared_21 : decode cX4_cheapestDeclared 21 = .ok (.istore 5, 2) := by decide +kernel
theorem dX4_cheapestDeclared_23 : decode cX4_cheapestDeclared 23 = .ok (.iconst 0, 1) := by decide +kernel
theorem dX4_cheapestDeclared_24 : decode cX4_cheapestDeclared 24 = .ok (.istore 6, 2) := by decide +kernel
theorem dX4_cheapestDeclared_26 : decode cX4_cheapestDeclared 26 = .ok (.iload 6, 2) := by decide +kernel
theorem dX4_cheapestDeclared_28 : decode cX4_cheapestDeclared 28 = .ok (.iload 5, 2) := by decide +kernel
theorem dX4_cheapestDeclared_30 : decode cX4_cheapestDeclared 30 = .ok (.if_icmp .gt 44, 3) := by decide +kernel
theorem dX4_cheapestDeclared_33 : decode cX4_cheapestDeclared 33 = .ok (.aload_n 0, 1) := by decide +kernel
theorem dX4_cheapestDeclared_34 : decode cX4_cheapestDeclared 34 = .ok (.getfield 35, 3) := by decide +kernel
theorem dX4_cheapestDeclared_37 : decode cX4_cheapestDeclared 37 = .ok (.iload 6, 2) := by decide +kernel
theorem dX4_cheapestDeclared_39 : decode cX4_cheapestDeclared 39 = .ok (.putfield 127, 3) := by decide +kernel
theorem dX4_cheapestDeclared_42 : decode cX4_cheapestDeclared 42 = .ok (.aload_n 0, 1) := by decide +kernel
theorem dX4_cheapestDeclared_43 : decode cX4_cheapestDeclared 43 = .ok (.getfield 28, 3) := by decide +kernel
theorem dX4_cheapestDeclared_46 : decode cX4_cheapestDeclared 46 = .ok (.aload_n 0, 1) := by decide +kernel
theorem dX4_cheapestDeclared_47 : decode cX4_cheapestDeclared 47 = .ok (.getfield 35, 3) := by decide +kernel
theorem dX4_cheapestDeclared_50 : decode cX4_cheapestDeclared 50 = .ok (.invokevirtual 155, 3) := by decide +kernel
theorem dX4_cheapestDeclared_53 : decode cX4_cheapestDeclared 53 = .ok (.lstore 7, 2) := by decide +kernel
theorem dX4_cheapestDeclared_55 : decode cX4_cheapestDeclared 55 = .ok (.lload 7, 2) := by decide +kernel
theorem dX4_cheapestDeclared_57 : decode cX4_cheapestDeclared 57 = .ok (.lload_n 3, 1) := by decide +kernel
theorem dX4_cheapestDeclared_58 : decode cX4_cheapestDeclared 58 = .ok (.lcmp, 1) := by decide +kernel
theorem dX4_cheapestDeclared_59 : decode cX4_cheapestDeclared 59 = .ok (.ifCond .ge 9, 3) := by decide +kernel
theorem dX4_cheapestDeclared_62 : decode cX4_cheapestDeclared 62 = .ok (.lload 7, 2) := by decide +kernel
theorem dX4_cheapestDeclared_64 : decode cX4_cheapestDeclared 64 = .ok (.lstore_n 3, 1) := by decide +kernel
theorem dX4_cheapestDeclared_65 : decode cX4_cheapestDeclared 65 = .ok (.iload 6, 2) := by decide +kernel
theorem dX4_cheapestDeclared_67 : decode cX4_cheapestDeclared 67 = .ok (.istore_n 2, 1) := by decide +kernel
theorem dX4_cheapestDeclared_68 : decode cX4_cheapestDeclared 68 = .ok (.iinc 6 1, 3) := by decide +kernel
theorem dX4_cheapestDeclared_71 : decode cX4_cheapestDeclared 71 = .ok (.goto (-45), 3) := by decide +kernel
theorem dX4_cheapestDeclared_74 : decode cX4_cheapestDeclared 74 = .ok (.aload_n 0, 1) := by decide +kernel
theorem dX4_cheapestDeclared_75 : decode cX4_cheapestDeclared 75 = .ok (.getfield 35, 3) := by decide +kernel
theorem dX4_cheapestDeclared_78 : decode cX4_cheapestDeclared 78 = .ok (.iload_n 1, 1) := by decide +kernel
theorem dX4_cheapestDeclared_79 : decode cX4_cheapestDeclared 79 = .ok (.putfield 127, 3) := by decide +kernel
theorem dX4_cheapestDeclared_82 : decode cX4_cheapestDeclared 82 = .ok (.iload_n 2, 1) := by decide +kernel
theorem dX4_cheapestDeclared_83 : decode cX4_cheapestDeclared 83 = .ok (.ireturn, 1) := by decide +kernel
theorem dX4_cheapestCarrierRow_0 : decode cX4_cheapestCarrierRow 0 = .ok (.aload_n 0, 1) := by decide +kernel
theorem dX4_cheapestCarrierRow_1 : decode cX4_cheapestCarrierRow 1 = .ok (.getfield 35, 3) := by decide +kernel
theorem dX4_cheapestCarrierRow_4 : decode cX4_cheapestCarrierRow 4 = .ok (.invokevirtual 164, 3) := by decide +kernel
theorem dX4_cheapestCarrierRow_7 : decode cX4_cheapestCarrierRow 7 = .ok (.istore_n 1, 1) := by decide +kernel
theorem dX4_cheapestCarrierRow_8 : decode cX4_cheapestCarrierRow 8 = .ok (.iconst 0, 1) := by decide +kernel
theorem dX4_cheapestCarrierRow_9 : decode cX4_cheapestCarrierRow 9 = .ok (.istore_n 2, 1) := by decide +kernel
theorem dX4_cheapestCarrierRow_10 : decode cX4_cheapestCarrierRow 10 = .ok (.ldc 254, 2) := by decide +kernel
theorem dX4_cheapestCarrierRow_12 : decode cX4_cheapestCarrierRow 12 = .ok (.istore_n 3, 1) := by decide +kernel
theorem dX4_cheapestCarrierRow_13 : decode cX4_cheapestCarrierRow 13 = .ok (.aload_n 0, 1) := by decide +kernel
theorem dX4_cheapestCarrierRow_14 : decode cX4_cheapestCarrierRow 14 = .ok (.getfield 35, 3) := by decide +kernel
theorem dX4_cheapestCarrierRow_17 : decode cX4_cheapestCarrierRow 17 = .ok (.invokevirtual 255, 3) := by decide +kernel
theorem dX4_cheapestCarrierRow_20 : decode cX4_cheapestCarrierRow 20 = .ok (.istore 4, 2) := by decide +kernel
theorem dX4_cheapestCarrierRow_22 : decode cX4_cheapestCarrierRow 22 = .ok (.iconst 0, 1) := by decide +kernel
theorem dX4_cheapestCarrierRow_23 : decode cX4_cheapestCarrierRow 23 = .ok (.istore 5, 2) := by decide +kernel
theorem dX4_cheapestCarrierRow_25 : decode cX4_cheapestCarrierRow 25 = .ok (.iload 5, 2) := by decide +kernel
theorem dX4_cheapestCarrierRow_27 : decode cX4_cheapestCarrierRow 27 = .ok (.iload 4, 2) := by decide +kernel
theorem dX4_cheapestCarrierRow_29 : decode cX4_cheapestCarrierRow 29 = .ok (.if_icmp .ge 39, 3) := by decide +kernel
theorem dX4_cheapestCarrierRow_32 : decode cX4_cheapestCarrierRow 32 = .ok (.aload_n 0, 1) := by decide +kernel
theorem dX4_cheapestCarrierRow_33 : decode cX4_cheapestCarrierRow 33 = .ok (.getfield 35, 3) := by decide +kernel
theorem dX4_cheapestCarrierRow_36 : decode cX4_cheapestCarrierRow 36 = .ok (.iload 5, 2) := by decide +kernel
theorem dX4_cheapestCarrierRow_38 : decode cX4_cheapestCarrierRow 38 = .ok (.invokevirtual 170, 3) := by decide +kernel
theorem dX4_cheapestCarrierRow_41 : decode cX4_cheapestCarrierRow 41 = .ok (.aload_n 0, 1) := by decide +kernel
theorem dX4_cheapestCarrierRow_42 : decode cX4_cheapestCarrierRow 42 = .ok (.getfield 35, 3) := by decide +kernel
theorem dX4_cheapestCarrierRow_45 : decode cX4_cheapestCarrierRow 45 = .ok (.invokevirtual 174, 3) := by decide +kernel
theorem dX4_cheapestCarrierRow_48 : decode cX4_cheapestCarrierRow 48 = .ok (.istore 6, 2) := by decide +kernel
theorem dX4_cheapestCarrierRow_50 : decode cX4_cheapestCarrierRow 50 = .ok (.iload 6, 2) := by decide +kernel
theorem dX4_cheapestCarrierRow_52 : decode cX4_cheapestCarrierRow 52 = .ok (.iload_n 3, 1) := by decide +kernel
theorem dX4_cheapestCarrierRow_53 : decode cX4_cheapestCarrierRow 53 = .ok (.if_icmp .ge 9, 3) := by decide +kernel
theorem dX4_cheapestCarrierRow_56 : decode cX4_cheapestCarrierRow 56 = .ok (.iload 6, 2) := by decide +kernel
theorem dX4_cheapestCarrierRow_58 : decode cX4_cheapestCarrierRow 58 = .ok (.istore_n 3, 1) := by decide +kernel
theorem dX4_cheapestCarrierRow_59 : decode cX4_cheapestCarrierRow 59 = .ok (.iload 5, 2) := by decide +kernel
theorem dX4_cheapestCarrierRow_61 : decode cX4_cheapestCarrierRow 61 = .ok (.istore_n 2, 1) := by decide +kernel
theorem dX4_cheapestCarrierRow_62 : decode cX4_cheapestCarrierRow 62 = .ok (.iinc 5 1, 3) := by decide +kernel
theorem dX4_cheapestCarrierRow_65 : decode cX4_cheapestCarrierRow 65 = .ok (.goto (-40), 3) := by decide +kernel
theorem dX4_cheapestCarrierRow_68 : decode cX4_cheapestCarrierRow 68 = .ok (.aload_n 0, 1) := by decide +kernel
theorem dX4_cheapestCarrierRow_69 : decode cX4_cheapestCarrierRow 69 = .ok (.getfield 35, 3) := by decide +kernel
theorem dX4_cheapestCarrierRow_72 : decode cX4_cheapestCarrierRow 72 = .ok (.iload_n 1, 1) := by decide +kernel
theorem dX4_cheapestCarrierRow_73 : decode cX4_cheapestCarrierRow 73 = .ok (.invokevirtual 170, 3) := by decide +kernel
theorem dX4_cheapestCarrierRow_76 : decode cX4_cheapestCarrierRow 76 = .ok (.iload_n 2, 1) := by decide +kernel
theorem dX4_cheapestCarrierRow_77 : decode cX4_cheapestCarrierRow 77 = .ok (.ireturn, 1) := by decide +kernel
theorem dX4_leastTerms_0 : decode cX4_leastTerms 0 = .ok (.lload_n 0, 1) := by decide +kernel
theorem dX4_leastTerms_1 : decode cX4_leastTerms 1 = .ok (.lload_n 2, 1) := by decide +kernel
theorem dX4_leastTerms_2 : decode cX4_leastTerms 2 = .ok (.invokestatic 258, 3) := by decide +kernel
theorem dX4_leastTerms_5 : decode cX4_leastTerms 5 = .ok (.lstore 5, 2) := by decide +kernel
theorem dX4_leastTerms_7 : decode cX4_leastTerms 7 = .ok (.iload 4, 2) := by decide +kernel
theorem dX4_leastTerms_9 : decode cX4_leastTerms 9 = .ok (.ifCond .ne 7, 3) := by decide +kernel
theorem dX4_leastTerms_12 : decode cX4_leastTerms 12 = .ok (.lload_n 0, 1) := by decide +kernel
theorem dX4_leastTerms_13 : decode cX4_leastTerms 13 = .ok (.goto 4, 3) := by decide +kernel
theorem dX4_leastTerms_16 : decode cX4_leastTerms 16 = .ok (.lload_n 2, 1) := by decide +kernel
theorem dX4_leastTerms_17 : decode cX4_leastTerms 17 = .ok (.lstore 7, 2) := by decide +kernel
theorem dX4_leastTerms_19 : decode cX4_leastTerms 19 = .ok (.lload 5, 2) := by decide +kernel
theorem dX4_leastTerms_21 : decode cX4_leastTerms 21 = .ok (.lconst 0, 1) := by decide +kernel
theorem dX4_leastTerms_22 : decode cX4_leastTerms 22 = .ok (.lcmp, 1) := by decide +kernel
theorem dX4_leastTerms_23 : decode cX4_leastTerms 23 = .ok (.ifCond .ne 8, 3) := by decide +kernel
theorem dX4_leastTerms_26 : decode cX4_leastTerms 26 = .ok (.lload 7, 2) := by decide +kernel
theorem dX4_leastTerms_28 : decode cX4_leastTerms 28 = .ok (.goto 8, 3) := by decide +kernel
theorem dX4_leastTerms_31 : decode cX4_leastTerms 31 = .ok (.lload 7, 2) := by decide +kernel
theorem dX4_leastTerms_33 : decode cX4_leastTerms 33 = .ok (.lload 5, 2) := by decide +kernel
theorem dX4_leastTerms_35 : decode cX4_leastTerms 35 = .ok (.ldiv, 1) := by decide +kernel
theorem dX4_leastTerms_36 : decode cX4_leastTerms 36 = .ok (.lreturn, 1) := by decide +kernel
theorem dX4_commonDivisor_0 : decode cX4_commonDivisor 0 = .ok (.lload_n 0, 1) := by decide +kernel
theorem dX4_commonDivisor_1 : decode cX4_commonDivisor 1 = .ok (.lstore 4, 2) := by decide +kernel
theorem dX4_commonDivisor_3 : decode cX4_commonDivisor 3 = .ok (.lload_n 2, 1) := by decide +kernel
theorem dX4_commonDivisor_4 : decode cX4_commonDivisor 4 = .ok (.lstore 6, 2) := by decide +kernel
theorem dX4_commonDivisor_6 : decode cX4_commonDivisor 6 = .ok (.iconst 0, 1) := by decide +kernel
theorem dX4_commonDivisor_7 : decode cX4_commonDivisor 7 = .ok (.istore 8, 2) := by decide +kernel
theorem dX4_commonDivisor_9 : decode cX4_commonDivisor 9 = .ok (.iload 8, 2) := by decide +kernel
theorem dX4_commonDivisor_11 : decode cX4_commonDivisor 11 = .ok (.bipush 100, 2) := by decide +kernel
theorem dX4_commonDivisor_13 : decode cX4_commonDivisor 13 = .ok (.if_icmp .ge 31, 3) := by decide +kernel
theorem dX4_commonDivisor_16 : decode cX4_commonDivisor 16 = .ok (.lload 6, 2) := by decide +kernel
theorem dX4_commonDivisor_18 : decode cX4_commonDivisor 18 = .ok (.lconst 0, 1) := by decide +kernel
theorem dX4_commonDivisor_19 : decode cX4_commonDivisor 19 = .ok (.lcmp, 1) := by decide +kernel
theorem dX4_commonDivisor_20 : decode cX4_commonDivisor 20 = .ok (.ifCond .eq 24, 3) := by decide +kernel
theorem dX4_commonDivisor_23 : decode cX4_commonDivisor 23 = .ok (.lload 4, 2) := by decide +kernel
theorem dX4_commonDivisor_25 : decode cX4_commonDivisor 25 = .ok (.lload 6, 2) := by decide +kernel
theorem dX4_commonDivisor_27 : decode cX4_commonDivisor 27 = .ok (.lrem, 1) := by decide +kernel
theorem dX4_commonDivisor_28 : decode cX4_commonDivisor 28 = .ok (.lstore 9, 2) := by decide +kernel
theorem dX4_commonDivisor_30 : decode cX4_commonDivisor 30 = .ok (.lload 6, 2) := by decide +kernel
theorem dX4_commonDivisor_32 : decode cX4_commonDivisor 32 = .ok (.lstore 4, 2) := by decide +kernel
theorem dX4_commonDivisor_34 : decode cX4_commonDivisor 34 = .ok (.lload 9, 2) := by decide +kernel
theorem dX4_commonDivisor_36 : decode cX4_commonDivisor 36 = .ok (.lstore 6, 2) := by decide +kernel
theorem dX4_commonDivisor_38 : decode cX4_commonDivisor 38 = .ok (.iinc 8 1, 3) := by decide +kernel
theorem dX4_commonDivisor_41 : decode cX4_commonDivisor 41 = .ok (.goto (-32), 3) := by decide +kernel
theorem dX4_commonDivisor_44 : decode cX4_commonDivisor 44 = .ok (.lload 4, 2) := by decide +kernel
theorem dX4_commonDivisor_46 : decode cX4_commonDivisor 46 = .ok (.lreturn, 1) := by decide +kernel
theorem dX4_leave_0 : decode cX4_leave 0 = .ok (.aload_n 0, 1) := by decide +kernel
theorem dX4_leave_1 : decode cX4_leave 1 = .ok (.bipush 31, 2) := by decide +kernel
theorem dX4_leave_3 : decode cX4_leave 3 = .ok (.aload_n 0, 1) := by decide +kernel
theorem dX4_leave_4 : decode cX4_leave 4 = .ok (.getfield 249, 3) := by decide +kernel
theorem dX4_leave_7 : decode cX4_leave 7 = .ok (.imul, 1) := by decide +kernel
theorem dX4_leave_8 : decode cX4_leave 8 = .ok (.iload_n 1, 1) := by decide +kernel
theorem dX4_leave_9 : decode cX4_leave 9 = .ok (.iadd, 1) := by decide +kernel
theorem dX4_leave_10 : decode cX4_leave 10 = .ok (.putfield 249, 3) := by decide +kernel
theorem dX4_leave_13 : decode cX4_leave 13 = .ok (.return_, 1) := by decide +kernel
theorem dX4_silenceTells_0 : decode cX4_silenceTells 0 = .ok (.aload_n 0, 1) := by decide +kernel
theorem dX4_silenceTells_1 : decode cX4_silenceTells 1 = .ok (.iconst 1, 1) := by decide +kernel
theorem dX4_silenceTells_2 : decode cX4_silenceTells 2 = .ok (.invokevirtual 246, 3) := by decide +kernel
theorem dX4_silenceTells_5 : decode cX4_silenceTells 5 = .ok (.iload_n 1, 1) := by decide +kernel
theorem dX4_silenceTells_6 : decode cX4_silenceTells 6 = .ok (.ireturn, 1) := by decide +kernel
theorem dX4_keptTells_0 : decode cX4_keptTells 0 = .ok (.aload_n 0, 1) := by decide +kernel
theorem dX4_keptTells_1 : decode cX4_keptTells 1 = .ok (.iconst 2, 1) := by decide +kernel
theorem dX4_keptTells_2 : decode cX4_keptTells 2 = .ok (.invokevirtual 246, 3) := by decide +kernel
theorem dX4_keptTells_5 : decode cX4_keptTells 5 = .ok (.aload_n 0, 1) := by decide +kernel
theorem dX4_keptTells_6 : decode cX4_keptTells 6 = .ok (.iload_n 1, 1) := by decide +kernel
theorem dX4_keptTells_7 : decode cX4_keptTells 7 = .ok (.invokevirtual 243, 3) := by decide +kernel
theorem dX4_keptTells_10 : decode cX4_keptTells 10 = .ok (.bipush 100, 2) := by decide +kernel
theorem dX4_keptTells_12 : decode cX4_keptTells 12 = .ok (.iadd, 1) := by decide +kernel
theorem dX4_keptTells_13 : decode cX4_keptTells 13 = .ok (.ireturn, 1) := by decide +kernel
theorem dX4_heldTells_0 : decode cX4_heldTells 0 = .ok (.aload_n 0, 1) := by decide +kernel
theorem dX4_heldTells_1 : decode cX4_heldTells 1 = .ok (.iconst 3, 1) := by decide +kernel
theorem dX4_heldTells_2 : decode cX4_heldTells 2 = .ok (.invokevirtual 246, 3) := by decide +kernel
theorem dX4_heldTells_5 : decode cX4_heldTells 5 = .ok (.aload_n 0, 1) := by decide +kernel
theorem dX4_heldTells_6 : decode cX4_heldTells 6 = .ok (.iload_n 1, 1) := by decide +kernel
theorem dX4_heldTells_7 : decode cX4_heldTells 7 = .ok (.invokevirtual 240, 3) := by decide +kernel
theorem dX4_heldTells_10 : decode cX4_heldTells 10 = .ok (.istore_n 2, 1) := by decide +kernel
theorem dX4_heldTells_11 : decode cX4_heldTells 11 = .ok (.iload_n 2, 1) := by decide +kernel
theorem dX4_heldTells_12 : decode cX4_heldTells 12 = .ok (.aload_n 0, 1) := by decide +kernel
theorem dX4_heldTells_13 : decode cX4_heldTells 13 = .ok (.iload_n 1, 1) := by decide +kernel
theorem dX4_heldTells_14 : decode cX4_heldTells 14 = .ok (.invokevirtual 243, 3) := by decide +kernel
theorem dX4_heldTells_17 : decode cX4_heldTells 17 = .ok (.iadd, 1) := by decide +kernel
theorem dX4_heldTells_18 : decode cX4_heldTells 18 = .ok (.ireturn, 1) := by decide +kernel
