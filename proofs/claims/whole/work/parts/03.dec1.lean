theorem dJ6_bitCount_0f7a4_0 : decode cJ6_bitCount_0f7a4 0 = .ok (.iload_n 0, 1) := by decide +kernel
theorem dJ6_bitCount_0f7a4_1 : decode cJ6_bitCount_0f7a4 1 = .ok (.iload_n 0, 1) := by decide +kernel
theorem dJ6_bitCount_0f7a4_2 : decode cJ6_bitCount_0f7a4 2 = .ok (.iconst 1, 1) := by decide +kernel
theorem dJ6_bitCount_0f7a4_3 : decode cJ6_bitCount_0f7a4 3 = .ok (.iushr, 1) := by decide +kernel
theorem dJ6_bitCount_0f7a4_4 : decode cJ6_bitCount_0f7a4 4 = .ok (.ldc_w 265, 3) := by decide +kernel
theorem dJ6_bitCount_0f7a4_7 : decode cJ6_bitCount_0f7a4 7 = .ok (.iand, 1) := by decide +kernel
theorem dJ6_bitCount_0f7a4_8 : decode cJ6_bitCount_0f7a4 8 = .ok (.isub, 1) := by decide +kernel
theorem dJ6_bitCount_0f7a4_9 : decode cJ6_bitCount_0f7a4 9 = .ok (.istore_n 0, 1) := by decide +kernel
theorem dJ6_bitCount_0f7a4_10 : decode cJ6_bitCount_0f7a4 10 = .ok (.iload_n 0, 1) := by decide +kernel
theorem dJ6_bitCount_0f7a4_11 : decode cJ6_bitCount_0f7a4 11 = .ok (.ldc_w 266, 3) := by decide +kernel
theorem dJ6_bitCount_0f7a4_14 : decode cJ6_bitCount_0f7a4 14 = .ok (.iand, 1) := by decide +kernel
theorem dJ6_bitCount_0f7a4_15 : decode cJ6_bitCount_0f7a4 15 = .ok (.iload_n 0, 1) := by decide +kernel
theorem dJ6_bitCount_0f7a4_16 : decode cJ6_bitCount_0f7a4 16 = .ok (.iconst 2, 1) := by decide +kernel
theorem dJ6_bitCount_0f7a4_17 : decode cJ6_bitCount_0f7a4 17 = .ok (.iushr, 1) := by decide +kernel
theorem dJ6_bitCount_0f7a4_18 : decode cJ6_bitCount_0f7a4 18 = .ok (.ldc_w 266, 3) := by decide +kernel
theorem dJ6_bitCount_0f7a4_21 : decode cJ6_bitCount_0f7a4 21 = .ok (.iand, 1) := by decide +kernel
theorem dJ6_bitCount_0f7a4_22 : decode cJ6_bitCount_0f7a4 22 = .ok (.iadd, 1) := by decide +kernel
theorem dJ6_bitCount_0f7a4_23 : decode cJ6_bitCount_0f7a4 23 = .ok (.istore_n 0, 1) := by decide +kernel
theorem dJ6_bitCount_0f7a4_24 : decode cJ6_bitCount_0f7a4 24 = .ok (.iload_n 0, 1) := by decide +kernel
theorem dJ6_bitCount_0f7a4_25 : decode cJ6_bitCount_0f7a4 25 = .ok (.iload_n 0, 1) := by decide +kernel
theorem dJ6_bitCount_0f7a4_26 : decode cJ6_bitCount_0f7a4 26 = .ok (.iconst 4, 1) := by decide +kernel
theorem dJ6_bitCount_0f7a4_27 : decode cJ6_bitCount_0f7a4 27 = .ok (.iushr, 1) := by decide +kernel
theorem dJ6_bitCount_0f7a4_28 : decode cJ6_bitCount_0f7a4 28 = .ok (.iadd, 1) := by decide +kernel
theorem dJ6_bitCount_0f7a4_29 : decode cJ6_bitCount_0f7a4 29 = .ok (.ldc_w 267, 3) := by decide +kernel
theorem dJ6_bitCount_0f7a4_32 : decode cJ6_bitCount_0f7a4 32 = .ok (.iand, 1) := by decide +kernel
theorem dJ6_bitCount_0f7a4_33 : decode cJ6_bitCount_0f7a4 33 = .ok (.istore_n 0, 1) := by decide +kernel
theorem dJ6_bitCount_0f7a4_34 : decode cJ6_bitCount_0f7a4 34 = .ok (.iload_n 0, 1) := by decide +kernel
theorem dJ6_bitCount_0f7a4_35 : decode cJ6_bitCount_0f7a4 35 = .ok (.iload_n 0, 1) := by decide +kernel
theorem dJ6_bitCount_0f7a4_36 : decode cJ6_bitCount_0f7a4 36 = .ok (.bipush 8, 2) := by decide +kernel
theorem dJ6_bitCount_0f7a4_38 : decode cJ6_bitCount_0f7a4 38 = .ok (.iushr, 1) := by decide +kernel
theorem dJ6_bitCount_0f7a4_39 : decode cJ6_bitCount_0f7a4 39 = .ok (.iadd, 1) := by decide +kernel
theorem dJ6_bitCount_0f7a4_40 : decode cJ6_bitCount_0f7a4 40 = .ok (.istore_n 0, 1) := by decide +kernel
theorem dJ6_bitCount_0f7a4_41 : decode cJ6_bitCount_0f7a4 41 = .ok (.iload_n 0, 1) := by decide +kernel
theorem dJ6_bitCount_0f7a4_42 : decode cJ6_bitCount_0f7a4 42 = .ok (.iload_n 0, 1) := by decide +kernel
theorem dJ6_bitCount_0f7a4_43 : decode cJ6_bitCount_0f7a4 43 = .ok (.bipush 16, 2) := by decide +kernel
theorem dJ6_bitCount_0f7a4_45 : decode cJ6_bitCount_0f7a4 45 = .ok (.iushr, 1) := by decide +kernel
theorem dJ6_bitCount_0f7a4_46 : decode cJ6_bitCount_0f7a4 46 = .ok (.iadd, 1) := by decide +kernel
theorem dJ6_bitCount_0f7a4_47 : decode cJ6_bitCount_0f7a4 47 = .ok (.istore_n 0, 1) := by decide +kernel
theorem dJ6_bitCount_0f7a4_48 : decode cJ6_bitCount_0f7a4 48 = .ok (.iload_n 0, 1) := by decide +kernel
theorem dJ6_bitCount_0f7a4_49 : decode cJ6_bitCount_0f7a4 49 = .ok (.bipush 63, 2) := by decide +kernel
theorem dJ6_bitCount_0f7a4_51 : decode cJ6_bitCount_0f7a4 51 = .ok (.iand, 1) := by decide +kernel
theorem dJ6_bitCount_0f7a4_52 : decode cJ6_bitCount_0f7a4 52 = .ok (.ireturn, 1) := by decide +kernel
theorem dJ9_max_7cf53_0 : decode cJ9_max_7cf53 0 = .ok (.iload_n 0, 1) := by decide +kernel
theorem dJ9_max_7cf53_1 : decode cJ9_max_7cf53 1 = .ok (.iload_n 1, 1) := by decide +kernel
theorem dJ9_max_7cf53_2 : decode cJ9_max_7cf53 2 = .ok (.if_icmp .lt 7, 3) := by decide +kernel
theorem dJ9_max_7cf53_5 : decode cJ9_max_7cf53 5 = .ok (.iload_n 0, 1) := by decide +kernel
theorem dJ9_max_7cf53_6 : decode cJ9_max_7cf53 6 = .ok (.goto 4, 3) := by decide +kernel
theorem dJ9_max_7cf53_9 : decode cJ9_max_7cf53 9 = .ok (.iload_n 1, 1) := by decide +kernel
theorem dJ9_max_7cf53_10 : decode cJ9_max_7cf53 10 = .ok (.ireturn, 1) := by decide +kernel
theorem dJ9_max_f86c9_0 : decode cJ9_max_f86c9 0 = .ok (.lload_n 0, 1) := by decide +kernel
theorem dJ9_max_f86c9_1 : decode cJ9_max_f86c9 1 = .ok (.lload_n 2, 1) := by decide +kernel
theorem dJ9_max_f86c9_2 : decode cJ9_max_f86c9 2 = .ok (.lcmp, 1) := by decide +kernel
theorem dJ9_max_f86c9_3 : decode cJ9_max_f86c9 3 = .ok (.ifCond .lt 7, 3) := by decide +kernel
theorem dJ9_max_f86c9_6 : decode cJ9_max_f86c9 6 = .ok (.lload_n 0, 1) := by decide +kernel
theorem dJ9_max_f86c9_7 : decode cJ9_max_f86c9 7 = .ok (.goto 4, 3) := by decide +kernel
theorem dJ9_max_f86c9_10 : decode cJ9_max_f86c9 10 = .ok (.lload_n 2, 1) := by decide +kernel
theorem dJ9_max_f86c9_11 : decode cJ9_max_f86c9 11 = .ok (.lreturn, 1) := by decide +kernel
theorem dJ9_min_7cf53_0 : decode cJ9_min_7cf53 0 = .ok (.iload_n 0, 1) := by decide +kernel
theorem dJ9_min_7cf53_1 : decode cJ9_min_7cf53 1 = .ok (.iload_n 1, 1) := by decide +kernel
theorem dJ9_min_7cf53_2 : decode cJ9_min_7cf53 2 = .ok (.if_icmp .gt 7, 3) := by decide +kernel
theorem dJ9_min_7cf53_5 : decode cJ9_min_7cf53 5 = .ok (.iload_n 0, 1) := by decide +kernel
theorem dJ9_min_7cf53_6 : decode cJ9_min_7cf53 6 = .ok (.goto 4, 3) := by decide +kernel
theorem dJ9_min_7cf53_9 : decode cJ9_min_7cf53 9 = .ok (.iload_n 1, 1) := by decide +kernel
theorem dJ9_min_7cf53_10 : decode cJ9_min_7cf53 10 = .ok (.ireturn, 1) := by decide +kernel
theorem dJ7_fill_53178_0 : decode cJ7_fill_53178 0 = .ok (.iconst 0, 1) := by decide +kernel
theorem dJ7_fill_53178_1 : decode cJ7_fill_53178 1 = .ok (.istore_n 2, 1) := by decide +kernel
theorem dJ7_fill_53178_2 : decode cJ7_fill_53178 2 = .ok (.aload_n 0, 1) := by decide +kernel
theorem dJ7_fill_53178_3 : decode cJ7_fill_53178 3 = .ok (.arraylength, 1) := by decide +kernel
theorem dJ7_fill_53178_4 : decode cJ7_fill_53178 4 = .ok (.istore_n 3, 1) := by decide +kernel
theorem dJ7_fill_53178_5 : decode cJ7_fill_53178 5 = .ok (.iload_n 2, 1) := by decide +kernel
theorem dJ7_fill_53178_6 : decode cJ7_fill_53178 6 = .ok (.iload_n 3, 1) := by decide +kernel
theorem dJ7_fill_53178_7 : decode cJ7_fill_53178 7 = .ok (.if_icmp .ge 13, 3) := by decide +kernel
theorem dJ7_fill_53178_10 : decode cJ7_fill_53178 10 = .ok (.aload_n 0, 1) := by decide +kernel
theorem dJ7_fill_53178_11 : decode cJ7_fill_53178 11 = .ok (.iload_n 2, 1) := by decide +kernel
theorem dJ7_fill_53178_12 : decode cJ7_fill_53178 12 = .ok (.iload_n 1, 1) := by decide +kernel
theorem dJ7_fill_53178_13 : decode cJ7_fill_53178 13 = .ok (.iastore, 1) := by decide +kernel
theorem dJ7_fill_53178_14 : decode cJ7_fill_53178 14 = .ok (.iinc 2 1, 3) := by decide +kernel
theorem dJ7_fill_53178_17 : decode cJ7_fill_53178 17 = .ok (.goto (-12), 3) := by decide +kernel
theorem dJ7_fill_53178_20 : decode cJ7_fill_53178 20 = .ok (.return_, 1) := by decide +kernel
theorem dX0_init_0 : decode cX0_init 0 = .ok (.aload_n 0, 1) := by decide +kernel
theorem dX0_init_1 : decode cX0_init 1 = .ok (.invokespecial 3, 3) := by decide +kernel
theorem dX0_init_4 : decode cX0_init 4 = .ok (.aload_n 0, 1) := by decide +kernel
theorem dX0_init_5 : decode cX0_init 5 = .ok (.bipush 24, 2) := by decide +kernel
theorem dX0_init_7 : decode cX0_init 7 = .ok (.bipush 6, 2) := by decide +kernel
theorem dX0_init_9 : decode cX0_init 9 = .ok (.multianewarray 9 2, 4) := by decide +kernel
theorem dX0_init_13 : decode cX0_init 13 = .ok (.putfield 11, 3) := by decide +kernel
theorem dX0_init_16 : decode cX0_init 16 = .ok (.aload_n 0, 1) := by decide +kernel
theorem dX0_init_17 : decode cX0_init 17 = .ok (.iconst 0, 1) := by decide +kernel
theorem dX0_init_18 : decode cX0_init 18 = .ok (.putfield 16, 3) := by decide +kernel
theorem dX0_init_21 : decode cX0_init 21 = .ok (.aload_n 0, 1) := by decide +kernel
theorem dX0_init_22 : decode cX0_init 22 = .ok (.iconst 0, 1) := by decide +kernel
theorem dX0_init_23 : decode cX0_init 23 = .ok (.putfield 20, 3) := by decide +kernel
theorem dX0_init_26 : decode cX0_init 26 = .ok (.return_, 1) := by decide +kernel
theorem dX0_forgetAll_0 : decode cX0_forgetAll 0 = .ok (.aload_n 0, 1) := by decide +kernel
theorem dX0_forgetAll_1 : decode cX0_forgetAll 1 = .ok (.iconst 0, 1) := by decide +kernel
theorem dX0_forgetAll_2 : decode cX0_forgetAll 2 = .ok (.putfield 16, 3) := by decide +kernel
theorem dX0_forgetAll_5 : decode cX0_forgetAll 5 = .ok (.aload_n 0, 1) := by decide +kernel
theorem dX0_forgetAll_6 : decode cX0_forgetAll 6 = .ok (.iconst 0, 1) := by decide +kernel
theorem dX0_forgetAll_7 : decode cX0_forgetAll 7 = .ok (.putfield 20, 3) := by decide +kernel
theorem dX0_forgetAll_10 : decode cX0_forgetAll 10 = .ok (.return_, 1) := by decide +kernel
theorem dX0_keep_0 : decode cX0_keep 0 = .ok (.aload_n 0, 1) := by decide +kernel
theorem dX0_keep_1 : decode cX0_keep 1 = .ok (.getfield 20, 3) := by decide +kernel
theorem dX0_keep_4 : decode cX0_keep 4 = .ok (.bipush 24, 2) := by decide +kernel
theorem dX0_keep_6 : decode cX0_keep 6 = .ok (.if_icmp .ne 26, 3) := by decide +kernel
theorem dX0_keep_9 : decode cX0_keep 9 = .ok (.aload_n 0, 1) := by decide +kernel
theorem dX0_keep_10 : decode cX0_keep 10 = .ok (.aload_n 0, 1) := by decide +kernel
theorem dX0_keep_11 : decode cX0_keep 11 = .ok (.getfield 16, 3) := by decide +kernel
theorem dX0_keep_14 : decode cX0_keep 14 = .ok (.iconst 1, 1) := by decide +kernel
theorem dX0_keep_15 : decode cX0_keep 15 = .ok (.iadd, 1) := by decide +kernel
theorem dX0_keep_16 : decode cX0_keep 16 = .ok (.bipush 24, 2) := by decide +kernel
theorem dX0_keep_18 : decode cX0_keep 18 = .ok (.irem, 1) := by decide +kernel
theorem dX0_keep_19 : decode cX0_keep 19 = .ok (.putfield 16, 3) := by decide +kernel
theorem dX0_keep_22 : decode cX0_keep 22 = .ok (.aload_n 0, 1) := by decide +kernel
theorem dX0_keep_23 : decode cX0_keep 23 = .ok (.dup, 1) := by decide +kernel
theorem dX0_keep_24 : decode cX0_keep 24 = .ok (.getfield 20, 3) := by decide +kernel
theorem dX0_keep_27 : decode cX0_keep 27 = .ok (.iconst 1, 1) := by decide +kernel
theorem dX0_keep_28 : decode cX0_keep 28 = .ok (.isub, 1) := by decide +kernel
theorem dX0_keep_29 : decode cX0_keep 29 = .ok (.putfield 20, 3) := by decide +kernel
theorem dX0_keep_32 : decode cX0_keep 32 = .ok (.aload_n 0, 1) := by decide +kernel
theorem dX0_keep_33 : decode cX0_keep 33 = .ok (.getfield 11, 3) := by decide +kernel
theorem dX0_keep_36 : decode cX0_keep 36 = .ok (.aload_n 0, 1) := by decide +kernel
theorem dX0_keep_37 : decode cX0_keep 37 = .ok (.getfield 16, 3) := by decide +kernel
theorem dX0_keep_40 : decode cX0_keep 40 = .ok (.aload_n 0, 1) := by decide +kernel
theorem dX0_keep_41 : decode cX0_keep 41 = .ok (.getfield 20, 3) := by decide +kernel
theorem dX0_keep_44 : decode cX0_keep 44 = .ok (.iadd, 1) := by decide +kernel
theorem dX0_keep_45 : decode cX0_keep 45 = .ok (.bipush 24, 2) := by decide +kernel
theorem dX0_keep_47 : decode cX0_keep 47 = .ok (.irem, 1) := by decide +kernel
theorem dX0_keep_48 : decode cX0_keep 48 = .ok (.aaload, 1) := by decide +kernel
theorem dX0_keep_49 : decode cX0_keep 49 = .ok (.astore 7, 2) := by decide +kernel
theorem dX0_keep_51 : decode cX0_keep 51 = .ok (.aload 7, 2) := by decide +kernel
theorem dX0_keep_53 : decode cX0_keep 53 = .ok (.iconst 0, 1) := by decide +kernel
theorem dX0_keep_54 : decode cX0_keep 54 = .ok (.iload_n 1, 1) := by decide +kernel
theorem dX0_keep_55 : decode cX0_keep 55 = .ok (.iastore, 1) := by decide +kernel
theorem dX0_keep_56 : decode cX0_keep 56 = .ok (.aload 7, 2) := by decide +kernel
theorem dX0_keep_58 : decode cX0_keep 58 = .ok (.iconst 1, 1) := by decide +kernel
theorem dX0_keep_59 : decode cX0_keep 59 = .ok (.iload_n 2, 1) := by decide +kernel
theorem dX0_keep_60 : decode cX0_keep 60 = .ok (.iastore, 1) := by decide +kernel
theorem dX0_keep_61 : decode cX0_keep 61 = .ok (.aload 7, 2) := by decide +kernel
theorem dX0_keep_63 : decode cX0_keep 63 = .ok (.iconst 2, 1) := by decide +kernel
theorem dX0_keep_64 : decode cX0_keep 64 = .ok (.iload_n 3, 1) := by decide +kernel
theorem dX0_keep_65 : decode cX0_keep 65 = .ok (.iastore, 1) := by decide +kernel
theorem dX0_keep_66 : decode cX0_keep 66 = .ok (.aload 7, 2) := by decide +kernel
theorem dX0_keep_68 : decode cX0_keep 68 = .ok (.iconst 3, 1) := by decide +kernel
theorem dX0_keep_69 : decode cX0_keep 69 = .ok (.iload 4, 2) := by decide +kernel
theorem dX0_keep_71 : decode cX0_keep 71 = .ok (.iastore, 1) := by decide +kernel
theorem dX0_keep_72 : decode cX0_keep 72 = .ok (.aload 7, 2) := by decide +kernel
theorem dX0_keep_74 : decode cX0_keep 74 = .ok (.iconst 4, 1) := by decide +kernel
theorem dX0_keep_75 : decode cX0_keep 75 = .ok (.iload 5, 2) := by decide +kernel
theorem dX0_keep_77 : decode cX0_keep 77 = .ok (.iastore, 1) := by decide +kernel
theorem dX0_keep_78 : decode cX0_keep 78 = .ok (.aload 7, 2) := by decide +kernel
theorem dX0_keep_80 : decode cX0_keep 80 = .ok (.iconst 5, 1) := by decide +kernel
theorem dX0_keep_81 : decode cX0_keep 81 = .ok (.iload 6, 2) := by decide +kernel
theorem dX0_keep_83 : decode cX0_keep 83 = .ok (.iastore, 1) := by decide +kernel
theorem dX0_keep_84 : decode cX0_keep 84 = .ok (.aload_n 0, 1) := by decide +kernel
theorem dX0_keep_85 : decode cX0_keep 85 = .ok (.dup, 1) := by decide +kernel
theorem dX0_keep_86 : decode cX0_keep 86 = .ok (.getfield 20, 3) := by decide +kernel
theorem dX0_keep_89 : decode cX0_keep 89 = .ok (.iconst 1, 1) := by decide +kernel
theorem dX0_keep_90 : decode cX0_keep 90 = .ok (.iadd, 1) := by decide +kernel
theorem dX0_keep_91 : decode cX0_keep 91 = .ok (.putfield 20, 3) := by decide +kernel
theorem dX0_keep_94 : decode cX0_keep 94 = .ok (.return_, 1) := by decide +kernel
theorem dX0_undoLatest_0 : decode cX0_undoLatest 0 = .ok (.aload_n 0, 1) := by decide +kernel
theorem dX0_undoLatest_1 : decode cX0_undoLatest 1 = .ok (.getfield 20, 3) := by decide +kernel
theorem dX0_undoLatest_4 : decode cX0_undoLatest 4 = .ok (.ifCond .ne 4, 3) := by decide +kernel
theorem dX0_undoLatest_7 : decode cX0_undoLatest 7 = .ok (.return_, 1) := by decide +kernel
theorem dX0_undoLatest_8 : decode cX0_undoLatest 8 = .ok (.aload_n 0, 1) := by decide +kernel
theorem dX0_undoLatest_9 : decode cX0_undoLatest 9 = .ok (.dup, 1) := by decide +kernel
theorem dX0_undoLatest_10 : decode cX0_undoLatest 10 = .ok (.getfield 20, 3) := by decide +kernel
theorem dX0_undoLatest_13 : decode cX0_undoLatest 13 = .ok (.iconst 1, 1) := by decide +kernel
theorem dX0_undoLatest_14 : decode cX0_undoLatest 14 = .ok (.isub, 1) := by decide +kernel
theorem dX0_undoLatest_15 : decode cX0_undoLatest 15 = .ok (.putfield 20, 3) := by decide +kernel
theorem dX0_undoLatest_18 : decode cX0_undoLatest 18 = .ok (.aload_n 0, 1) := by decide +kernel
theorem dX0_undoLatest_19 : decode cX0_undoLatest 19 = .ok (.getfield 11, 3) := by decide +kernel
theorem dX0_undoLatest_22 : decode cX0_undoLatest 22 = .ok (.aload_n 0, 1) := by decide +kernel
theorem dX0_undoLatest_23 : decode cX0_undoLatest 23 = .ok (.getfield 16, 3) := by decide +kernel
theorem dX0_undoLatest_26 : decode cX0_undoLatest 26 = .ok (.aload_n 0, 1) := by decide +kernel
theorem dX0_undoLatest_27 : decode cX0_undoLatest 27 = .ok (.getfield 20, 3) := by decide +kernel
theorem dX0_undoLatest_30 : decode cX0_undoLatest 30 = .ok (.iadd, 1) := by decide +kernel
theorem dX0_undoLatest_31 : decode cX0_undoLatest 31 = .ok (.bipush 24, 2) := by decide +kernel
theorem dX0_undoLatest_33 : decode cX0_undoLatest 33 = .ok (.irem, 1) := by decide +kernel
theorem dX0_undoLatest_34 : decode cX0_undoLatest 34 = .ok (.aaload, 1) := by decide +kernel
theorem dX0_undoLatest_35 : decode cX0_undoLatest 35 = .ok (.astore_n 2, 1) := by decide +kernel
theorem dX0_undoLatest_36 : decode cX0_undoLatest 36 = .ok (.aload_n 2, 1) := by decide +kernel
theorem dX0_undoLatest_37 : decode cX0_undoLatest 37 = .ok (.iconst 1, 1) := by decide +kernel
theorem dX0_undoLatest_38 : decode cX0_undoLatest 38 = .ok (.iaload, 1) := by decide +kernel
theorem dX0_undoLatest_39 : decode cX0_undoLatest 39 = .ok (.istore_n 3, 1) := by decide +kernel
theorem dX0_undoLatest_40 : decode cX0_undoLatest 40 = .ok (.aload_n 2, 1) := by decide +kernel
theorem dX0_undoLatest_41 : decode cX0_undoLatest 41 = .ok (.iconst 0, 1) := by decide +kernel
theorem dX0_undoLatest_42 : decode cX0_undoLatest 42 = .ok (.iaload, 1) := by decide +kernel
theorem dX0_undoLatest_43 : decode cX0_undoLatest 43 = .ok (.tableswitch 82 0 3 #[29, 37, 54, 65], 29) := by decide +kernel
theorem dX0_undoLatest_72 : decode cX0_undoLatest 72 = .ok (.aload_n 1, 1) := by decide +kernel
theorem dX0_undoLatest_73 : decode cX0_undoLatest 73 = .ok (.iload_n 3, 1) := by decide +kernel
theorem dX0_undoLatest_74 : decode cX0_undoLatest 74 = .ok (.invokevirtual 23, 3) := by decide +kernel
theorem dX0_undoLatest_77 : decode cX0_undoLatest 77 = .ok (.goto 57, 3) := by decide +kernel
theorem dX0_undoLatest_80 : decode cX0_undoLatest 80 = .ok (.aload_n 1, 1) := by decide +kernel
theorem dX0_undoLatest_81 : decode cX0_undoLatest 81 = .ok (.iload_n 3, 1) := by decide +kernel
theorem dX0_undoLatest_82 : decode cX0_undoLatest 82 = .ok (.aload_n 2, 1) := by decide +kernel
theorem dX0_undoLatest_83 : decode cX0_undoLatest 83 = .ok (.iconst 3, 1) := by decide +kernel
theorem dX0_undoLatest_84 : decode cX0_undoLatest 84 = .ok (.iaload, 1) := by decide +kernel
theorem dX0_undoLatest_85 : decode cX0_undoLatest 85 = .ok (.aload_n 2, 1) := by decide +kernel
theorem dX0_undoLatest_86 : decode cX0_undoLatest 86 = .ok (.iconst 4, 1) := by decide +kernel
theorem dX0_undoLatest_87 : decode cX0_undoLatest 87 = .ok (.iaload, 1) := by decide +kernel
theorem dX0_undoLatest_88 : decode cX0_undoLatest 88 = .ok (.aload_n 2, 1) := by decide +kernel
theorem dX0_undoLatest_89 : decode cX0_undoLatest 89 = .ok (.iconst 5, 1) := by decide +kernel
theorem dX0_undoLatest_90 : decode cX0_undoLatest 90 = .ok (.iaload, 1) := by decide +kernel
theorem dX0_undoLatest_91 : decode cX0_undoLatest 91 = .ok (.invokevirtual 29, 3) := by decide +kernel
theorem dX0_undoLatest_94 : decode cX0_undoLatest 94 = .ok (.goto 40, 3) := by decide +kernel
theorem dX0_undoLatest_97 : decode cX0_undoLatest 97 = .ok (.aload_n 1, 1) := by decide +kernel
theorem dX0_undoLatest_98 : decode cX0_undoLatest 98 = .ok (.aload_n 2, 1) := by decide +kernel
theorem dX0_undoLatest_99 : decode cX0_undoLatest 99 = .ok (.iconst 2, 1) := by decide +kernel
theorem dX0_undoLatest_100 : decode cX0_undoLatest 100 = .ok (.iaload, 1) := by decide +kernel
theorem dX0_undoLatest_101 : decode cX0_undoLatest 101 = .ok (.iload_n 3, 1) := by decide +kernel
theorem dX0_undoLatest_102 : decode cX0_undoLatest 102 = .ok (.invokevirtual 33, 3) := by decide +kernel
theorem dX0_undoLatest_105 : decode cX0_undoLatest 105 = .ok (.goto 29, 3) := by decide +kernel
theorem dX0_undoLatest_108 : decode cX0_undoLatest 108 = .ok (.aload_n 1, 1) := by decide +kernel
theorem dX0_undoLatest_109 : decode cX0_undoLatest 109 = .ok (.iload_n 3, 1) := by decide +kernel
theorem dX0_undoLatest_110 : decode cX0_undoLatest 110 = .ok (.aload_n 2, 1) := by decide +kernel
theorem dX0_undoLatest_111 : decode cX0_undoLatest 111 = .ok (.iconst 3, 1) := by decide +kernel
theorem dX0_undoLatest_112 : decode cX0_undoLatest 112 = .ok (.iaload, 1) := by decide +kernel
theorem dX0_undoLatest_113 : decode cX0_undoLatest 113 = .ok (.aload_n 2, 1) := by decide +kernel
theorem dX0_undoLatest_114 : decode cX0_undoLatest 114 = .ok (.iconst 4, 1) := by decide +kernel
theorem dX0_undoLatest_115 : decode cX0_undoLatest 115 = .ok (.iaload, 1) := by decide +kernel
theorem dX0_undoLatest_116 : decode cX0_undoLatest 116 = .ok (.aload_n 2, 1) := by decide +kernel
theorem dX0_undoLatest_117 : decode cX0_undoLatest 117 = .ok (.iconst 5, 1) := by decide +kernel
theorem dX0_undoLatest_118 : decode cX0_undoLatest 118 = .ok (.iaload, 1) := by decide +kernel
theorem dX0_undoLatest_119 : decode cX0_undoLatest 119 = .ok (.invokevirtual 37, 3) := by decide +kernel
theorem dX0_undoLatest_122 : decode cX0_undoLatest 122 = .ok (.goto 12, 3) := by decide +kernel
theorem dX0_undoLatest_125 : decode cX0_undoLatest 125 = .ok (.aload_n 1, 1) := by decide +kernel
theorem dX0_undoLatest_126 : decode cX0_undoLatest 126 = .ok (.getfield 40, 3) := by decide +kernel
theorem dX0_undoLatest_129 : decode cX0_undoLatest 129 = .ok (.iload_n 3, 1) := by decide +kernel
theorem dX0_undoLatest_130 : decode cX0_undoLatest 130 = .ok (.aload_n 2, 1) := by decide +kernel
theorem dX0_undoLatest_131 : decode cX0_undoLatest 131 = .ok (.iconst 2, 1) := by decide +kernel
theorem dX0_undoLatest_132 : decode cX0_undoLatest 132 = .ok (.iaload, 1) := by decide +kernel
theorem dX0_undoLatest_133 : decode cX0_undoLatest 133 = .ok (.iastore, 1) := by decide +kernel
theorem dX0_undoLatest_134 : decode cX0_undoLatest 134 = .ok (.return_, 1) := by decide +kernel
theorem dX1_toThemselves_0 : decode cX1_toThemselves 0 = .ok (.iconst 0, 1) := by decide +kernel
theorem dX1_toThemselves_1 : decode cX1_toThemselves 1 = .ok (.istore_n 1, 1) := by decide +kernel
theorem dX1_toThemselves_2 : decode cX1_toThemselves 2 = .ok (.iload_n 1, 1) := by decide +kernel
theorem dX1_toThemselves_3 : decode cX1_toThemselves 3 = .ok (.bipush 6, 2) := by decide +kernel
theorem dX1_toThemselves_5 : decode cX1_toThemselves 5 = .ok (.if_icmp .ge 19, 3) := by decide +kernel
theorem dX1_toThemselves_8 : decode cX1_toThemselves 8 = .ok (.aload_n 0, 1) := by decide +kernel
theorem dX1_toThemselves_9 : decode cX1_toThemselves 9 = .ok (.iload_n 1, 1) := by decide +kernel
theorem dX1_toThemselves_10 : decode cX1_toThemselves 10 = .ok (.iload_n 1, 1) := by decide +kernel
theorem dX1_toThemselves_11 : decode cX1_toThemselves 11 = .ok (.iconst 1, 1) := by decide +kernel
theorem dX1_toThemselves_12 : decode cX1_toThemselves 12 = .ok (.iadd, 1) := by decide +kernel
theorem dX1_toThemselves_13 : decode cX1_toThemselves 13 = .ok (.sipush 1000, 3) := by decide +kernel
theorem dX1_toThemselves_16 : decode cX1_toThemselves 16 = .ok (.imul, 1) := by decide +kernel
theorem dX1_toThemselves_17 : decode cX1_toThemselves 17 = .ok (.iastore, 1) := by decide +kernel
theorem dX1_toThemselves_18 : decode cX1_toThemselves 18 = .ok (.iinc 1 1, 3) := by decide +kernel
theorem dX1_toThemselves_21 : decode cX1_toThemselves 21 = .ok (.goto (-19), 3) := by decide +kernel
theorem dX1_toThemselves_24 : decode cX1_toThemselves 24 = .ok (.return_, 1) := by decide +kernel
theorem dX1_sourceOf_0 : decode cX1_sourceOf 0 = .ok (.iload_n 0, 1) := by decide +kernel
theorem dX1_sourceOf_1 : decode cX1_sourceOf 1 = .ok (.sipush 1000, 3) := by decide +kernel
theorem dX1_sourceOf_4 : decode cX1_sourceOf 4 = .ok (.idiv, 1) := by decide +kernel
theorem dX1_sourceOf_5 : decode cX1_sourceOf 5 = .ok (.iconst 1, 1) := by decide +kernel
theorem dX1_sourceOf_6 : decode cX1_sourceOf 6 = .ok (.isub, 1) := by decide +kernel
theorem dX1_sourceOf_7 : decode cX1_sourceOf 7 = .ok (.ireturn, 1) := by decide +kernel
theorem dX1_amountOf_0 : decode cX1_amountOf 0 = .ok (.iload_n 0, 1) := by decide +kernel
theorem dX1_amountOf_1 : decode cX1_amountOf 1 = .ok (.sipush 1000, 3) := by decide +kernel
theorem dX1_amountOf_4 : decode cX1_amountOf 4 = .ok (.irem, 1) := by decide +kernel
theorem dX1_amountOf_5 : decode cX1_amountOf 5 = .ok (.ireturn, 1) := by decide +kernel
theorem dX1_over_0 : decode cX1_over 0 = .ok (.iload_n 1, 1) := by decide +kernel
theorem dX1_over_1 : decode cX1_over 1 = .ok (.tableswitch 95 1 5 #[35, 48, 57, 95, 78], 35) := by decide +kernel
theorem dX1_over_36 : decode cX1_over 36 = .ok (.aload_n 0, 1) := by decide +kernel
theorem dX1_over_37 : decode cX1_over 37 = .ok (.iload_n 2, 1) := by decide +kernel
theorem dX1_over_38 : decode cX1_over 38 = .ok (.aload_n 0, 1) := by decide +kernel
theorem dX1_over_39 : decode cX1_over 39 = .ok (.iload_n 2, 1) := by decide +kernel
theorem dX1_over_40 : decode cX1_over 40 = .ok (.iaload, 1) := by decide +kernel
theorem dX1_over_41 : decode cX1_over 41 = .ok (.iconst 1, 1) := by decide +kernel
theorem dX1_over_42 : decode cX1_over 42 = .ok (.iadd, 1) := by decide +kernel
theorem dX1_over_43 : decode cX1_over 43 = .ok (.invokestatic 11, 3) := by decide +kernel
theorem dX1_over_46 : decode cX1_over 46 = .ok (.goto 50, 3) := by decide +kernel
theorem dX1_over_49 : decode cX1_over 49 = .ok (.aload_n 0, 1) := by decide +kernel
theorem dX1_over_50 : decode cX1_over 50 = .ok (.iload_n 2, 1) := by decide +kernel
theorem dX1_over_51 : decode cX1_over 51 = .ok (.iload_n 3, 1) := by decide +kernel
theorem dX1_over_52 : decode cX1_over 52 = .ok (.invokestatic 11, 3) := by decide +kernel
theorem dX1_over_55 : decode cX1_over 55 = .ok (.goto 41, 3) := by decide +kernel
theorem dX1_over_58 : decode cX1_over 58 = .ok (.aload_n 0, 1) := by decide +kernel
theorem dX1_over_59 : decode cX1_over 59 = .ok (.iconst 3, 1) := by decide +kernel
theorem dX1_over_60 : decode cX1_over 60 = .ok (.aload_n 0, 1) := by decide +kernel
theorem dX1_over_61 : decode cX1_over 61 = .ok (.iconst 0, 1) := by decide +kernel
theorem dX1_over_62 : decode cX1_over 62 = .ok (.iconst 3, 1) := by decide +kernel
theorem dX1_over_63 : decode cX1_over 63 = .ok (.invokestatic 15, 3) := by decide +kernel
theorem dX1_over_66 : decode cX1_over 66 = .ok (.aload_n 0, 1) := by decide +kernel
theorem dX1_over_67 : decode cX1_over 67 = .ok (.iload_n 2, 1) := by decide +kernel
theorem dX1_over_68 : decode cX1_over 68 = .ok (.aload_n 0, 1) := by decide +kernel
theorem dX1_over_69 : decode cX1_over 69 = .ok (.iload_n 2, 1) := by decide +kernel
theorem dX1_over_70 : decode cX1_over 70 = .ok (.iaload, 1) := by decide +kernel
theorem dX1_over_71 : decode cX1_over 71 = .ok (.iconst 1, 1) := by decide +kernel
theorem dX1_over_72 : decode cX1_over 72 = .ok (.iadd, 1) := by decide +kernel
theorem dX1_over_73 : decode cX1_over 73 = .ok (.invokestatic 11, 3) := by decide +kernel
theorem dX1_over_76 : decode cX1_over 76 = .ok (.goto 20, 3) := by decide +kernel
theorem dX1_over_79 : decode cX1_over 79 = .ok (.aload_n 0, 1) := by decide +kernel
theorem dX1_over_80 : decode cX1_over 80 = .ok (.iconst 0, 1) := by decide +kernel
theorem dX1_over_81 : decode cX1_over 81 = .ok (.aload_n 0, 1) := by decide +kernel
theorem dX1_over_82 : decode cX1_over 82 = .ok (.iconst 3, 1) := by decide +kernel
theorem dX1_over_83 : decode cX1_over 83 = .ok (.iconst 3, 1) := by decide +kernel
theorem dX1_over_84 : decode cX1_over 84 = .ok (.invokestatic 15, 3) := by decide +kernel
theorem dX1_over_87 : decode cX1_over 87 = .ok (.aload_n 0, 1) := by decide +kernel
theorem dX1_over_88 : decode cX1_over 88 = .ok (.iconst 0, 1) := by decide +kernel
theorem dX1_over_89 : decode cX1_over 89 = .ok (.iconst 0, 1) := by decide +kernel
theorem dX1_over_90 : decode cX1_over 90 = .ok (.invokestatic 11, 3) := by decide +kernel
theorem dX1_over_93 : decode cX1_over 93 = .ok (.goto 3, 3) := by decide +kernel
theorem dX1_over_96 : decode cX1_over 96 = .ok (.return_, 1) := by decide +kernel
theorem dX1_standAt_0 : decode cX1_standAt 0 = .ok (.aload_n 0, 1) := by decide +kernel
theorem dX1_standAt_1 : decode cX1_standAt 1 = .ok (.iload_n 1, 1) := by decide +kernel
theorem dX1_standAt_2 : decode cX1_standAt 2 = .ok (.iload_n 2, 1) := by decide +kernel
theorem dX1_standAt_3 : decode cX1_standAt 3 = .ok (.iastore, 1) := by decide +kernel
theorem dX1_standAt_4 : decode cX1_standAt 4 = .ok (.iload_n 1, 1) := by decide +kernel
theorem dX1_standAt_5 : decode cX1_standAt 5 = .ok (.iconst 1, 1) := by decide +kernel
theorem dX1_standAt_6 : decode cX1_standAt 6 = .ok (.iadd, 1) := by decide +kernel
theorem dX1_standAt_7 : decode cX1_standAt 7 = .ok (.istore_n 3, 1) := by decide +kernel
theorem dX1_standAt_8 : decode cX1_standAt 8 = .ok (.iload_n 3, 1) := by decide +kernel
theorem dX1_standAt_9 : decode cX1_standAt 9 = .ok (.iconst 3, 1) := by decide +kernel
theorem dX1_standAt_10 : decode cX1_standAt 10 = .ok (.if_icmp .ge 13, 3) := by decide +kernel
theorem dX1_standAt_13 : decode cX1_standAt 13 = .ok (.aload_n 0, 1) := by decide +kernel
theorem dX1_standAt_14 : decode cX1_standAt 14 = .ok (.iload_n 3, 1) := by decide +kernel
theorem dX1_standAt_15 : decode cX1_standAt 15 = .ok (.iconst 0, 1) := by decide +kernel
theorem dX1_standAt_16 : decode cX1_standAt 16 = .ok (.iastore, 1) := by decide +kernel
theorem dX1_standAt_17 : decode cX1_standAt 17 = .ok (.iinc 3 1, 3) := by decide +kernel
theorem dX1_standAt_20 : decode cX1_standAt 20 = .ok (.goto (-12), 3) := by decide +kernel
theorem dX1_standAt_23 : decode cX1_standAt 23 = .ok (.return_, 1) := by decide +kernel
theorem dX2_init_0 : decode cX2_init 0 = .ok (.aload_n 0, 1) := by decide +kernel
theorem dX2_init_1 : decode cX2_init 1 = .ok (.invokespecial 3, 3) := by decide +kernel
theorem dX2_init_4 : decode cX2_init 4 = .ok (.aload_n 0, 1) := by decide +kernel
theorem dX2_init_5 : decode cX2_init 5 = .ok (.bipush 40, 2) := by decide +kernel
theorem dX2_init_7 : decode cX2_init 7 = .ok (.newarray .int, 2) := by decide +kernel
theorem dX2_init_9 : decode cX2_init 9 = .ok (.putfield 9, 3) := by decide +kernel
theorem dX2_init_12 : decode cX2_init 12 = .ok (.aload_n 0, 1) := by decide +kernel
theorem dX2_init_13 : decode cX2_init 13 = .ok (.iconst (-1), 1) := by decide +kernel
theorem dX2_init_14 : decode cX2_init 14 = .ok (.putfield 15, 3) := by decide +kernel
theorem dX2_init_17 : decode cX2_init 17 = .ok (.aload_n 0, 1) := by decide +kernel
theorem dX2_init_18 : decode cX2_init 18 = .ok (.iconst 0, 1) := by decide +kernel
theorem dX2_init_19 : decode cX2_init 19 = .ok (.putfield 19, 3) := by decide +kernel
theorem dX2_init_22 : decode cX2_init 22 = .ok (.return_, 1) := by decide +kernel
theorem dX2_isMissing_0 : decode cX2_isMissing 0 = .ok (.aload_n 0, 1) := by decide +kernel
theorem dX2_isMissing_1 : decode cX2_isMissing 1 = .ok (.getfield 15, 3) := by decide +kernel
theorem dX2_isMissing_4 : decode cX2_isMissing 4 = .ok (.iconst (-1), 1) := by decide +kernel
theorem dX2_isMissing_5 : decode cX2_isMissing 5 = .ok (.if_icmp .ne 7, 3) := by decide +kernel
theorem dX2_isMissing_8 : decode cX2_isMissing 8 = .ok (.iconst 1, 1) := by decide +kernel
theorem dX2_isMissing_9 : decode cX2_isMissing 9 = .ok (.goto 4, 3) := by decide +kernel
theorem dX2_isMissing_12 : decode cX2_isMissing 12 = .ok (.iconst 0, 1) := by decide +kernel
theorem dX2_isMissing_13 : decode cX2_isMissing 13 = .ok (.ireturn, 1) := by decide +kernel
theorem dX2_become_0 : decode cX2_become 0 = .ok (.aload_n 0, 1) := by decide +kernel
theorem dX2_become_1 : decode cX2_become 1 = .ok (.iload_n 1, 1) := by decide +kernel
theorem dX2_become_2 : decode cX2_become 2 = .ok (.putfield 15, 3) := by decide +kernel
theorem dX2_become_5 : decode cX2_become 5 = .ok (.aload_n 0, 1) := by decide +kernel
theorem dX2_become_6 : decode cX2_become 6 = .ok (.iload_n 2, 1) := by decide +kernel
theorem dX2_become_7 : decode cX2_become 7 = .ok (.putfield 19, 3) := by decide +kernel
theorem dX2_become_10 : decode cX2_become 10 = .ok (.aload_n 0, 1) := by decide +kernel
theorem dX2_become_11 : decode cX2_become 11 = .ok (.getfield 9, 3) := by decide +kernel
theorem dX2_become_14 : decode cX2_become 14 = .ok (.iconst 0, 1) := by decide +kernel
theorem dX2_become_15 : decode cX2_become 15 = .ok (.invokestatic 22, 3) := by decide +kernel
theorem dX2_become_18 : decode cX2_become 18 = .ok (.return_, 1) := by decide +kernel
theorem dX2_holds_0 : decode cX2_holds 0 = .ok (.iload_n 1, 1) := by decide +kernel
theorem dX2_holds_1 : decode cX2_holds 1 = .ok (.ifCond .lt 21, 3) := by decide +kernel
theorem dX2_holds_4 : decode cX2_holds 4 = .ok (.iload_n 2, 1) := by decide +kernel
theorem dX2_holds_5 : decode cX2_holds 5 = .ok (.ifCond .lt 17, 3) := by decide +kernel
theorem dX2_holds_8 : decode cX2_holds 8 = .ok (.iload_n 1, 1) := by decide +kernel
theorem dX2_holds_9 : decode cX2_holds 9 = .ok (.aload_n 0, 1) := by decide +kernel
theorem dX2_holds_10 : decode cX2_holds 10 = .ok (.getfield 19, 3) := by decide +kernel
theorem dX2_holds_13 : decode cX2_holds 13 = .ok (.iload_n 2, 1) := by decide +kernel
theorem dX2_holds_14 : decode cX2_holds 14 = .ok (.isub, 1) := by decide +kernel
theorem dX2_holds_15 : decode cX2_holds 15 = .ok (.if_icmp .gt 7, 3) := by decide +kernel
theorem dX2_holds_18 : decode cX2_holds 18 = .ok (.iconst 1, 1) := by decide +kernel
theorem dX2_holds_19 : decode cX2_holds 19 = .ok (.goto 4, 3) := by decide +kernel
theorem dX2_holds_22 : decode cX2_holds 22 = .ok (.iconst 0, 1) := by decide +kernel
theorem dX2_holds_23 : decode cX2_holds 23 = .ok (.ireturn, 1) := by decide +kernel
theorem dX2_findingAt_0 : decode cX2_findingAt 0 = .ok (.aload_n 0, 1) := by decide +kernel
theorem dX2_findingAt_1 : decode cX2_findingAt 1 = .ok (.invokevirtual 28, 3) := by decide +kernel
theorem dX2_findingAt_4 : decode cX2_findingAt 4 = .ok (.ifCond .eq 5, 3) := by decide +kernel
theorem dX2_findingAt_7 : decode cX2_findingAt 7 = .ok (.iconst 1, 1) := by decide +kernel
theorem dX2_findingAt_8 : decode cX2_findingAt 8 = .ok (.ireturn, 1) := by decide +kernel
theorem dX2_findingAt_9 : decode cX2_findingAt 9 = .ok (.aload_n 0, 1) := by decide +kernel
theorem dX2_findingAt_10 : decode cX2_findingAt 10 = .ok (.iload_n 1, 1) := by decide +kernel
theorem dX2_findingAt_11 : decode cX2_findingAt 11 = .ok (.iload_n 2, 1) := by decide +kernel
theorem dX2_findingAt_12 : decode cX2_findingAt 12 = .ok (.invokevirtual 32, 3) := by decide +kernel
theorem dX2_findingAt_15 : decode cX2_findingAt 15 = .ok (.ifCond .eq 7, 3) := by decide +kernel
theorem dX2_findingAt_18 : decode cX2_findingAt 18 = .ok (.iconst 0, 1) := by decide +kernel
theorem dX2_findingAt_19 : decode cX2_findingAt 19 = .ok (.goto 4, 3) := by decide +kernel
theorem dX2_findingAt_22 : decode cX2_findingAt 22 = .ok (.iconst 2, 1) := by decide +kernel
theorem dX2_findingAt_23 : decode cX2_findingAt 23 = .ok (.ireturn, 1) := by decide +kernel
theorem dX2_narrowed_0 : decode cX2_narrowed 0 = .ok (.aload_n 0, 1) := by decide +kernel
theorem dX2_narrowed_1 : decode cX2_narrowed 1 = .ok (.getfield 15, 3) := by decide +kernel
theorem dX2_narrowed_4 : decode cX2_narrowed 4 = .ok (.lookupswitch 34 #[(0, 28), (1, 31)], 28) := by decide +kernel
theorem dX2_narrowed_32 : decode cX2_narrowed 32 = .ok (.iload_n 1, 1) := by decide +kernel
theorem dX2_narrowed_33 : decode cX2_narrowed 33 = .ok (.i2b, 1) := by decide +kernel
theorem dX2_narrowed_34 : decode cX2_narrowed 34 = .ok (.ireturn, 1) := by decide +kernel
theorem dX2_narrowed_35 : decode cX2_narrowed 35 = .ok (.iload_n 1, 1) := by decide +kernel
theorem dX2_narrowed_36 : decode cX2_narrowed 36 = .ok (.i2s, 1) := by decide +kernel
theorem dX2_narrowed_37 : decode cX2_narrowed 37 = .ok (.ireturn, 1) := by decide +kernel
theorem dX2_narrowed_38 : decode cX2_narrowed 38 = .ok (.iload_n 1, 1) := by decide +kernel
theorem dX2_narrowed_39 : decode cX2_narrowed 39 = .ok (.ireturn, 1) := by decide +kernel
theorem dX3_init_0 : decode cX3_init 0 = .ok (.aload_n 0, 1) := by decide +kernel
theorem dX3_init_1 : decode cX3_init 1 = .ok (.invokespecial 3, 3) := by decide +kernel
theorem dX3_init_4 : decode cX3_init 4 = .ok (.aload_n 0, 1) := by decide +kernel
theorem dX3_init_5 : decode cX3_init 5 = .ok (.iconst 3, 1) := by decide +kernel
theorem dX3_init_6 : decode cX3_init 6 = .ok (.newarray .int, 2) := by decide +kernel
theorem dX3_init_8 : decode cX3_init 8 = .ok (.putfield 9, 3) := by decide +kernel
theorem dX3_init_11 : decode cX3_init 11 = .ok (.aload_n 0, 1) := by decide +kernel
theorem dX3_init_12 : decode cX3_init 12 = .ok (.bipush 24, 2) := by decide +kernel
theorem dX3_init_14 : decode cX3_init 14 = .ok (.newarray .int, 2) := by decide +kernel
theorem dX3_init_16 : decode cX3_init 16 = .ok (.putfield 15, 3) := by decide +kernel
theorem dX3_init_19 : decode cX3_init 19 = .ok (.aload_n 0, 1) := by decide +kernel
theorem dX3_init_20 : decode cX3_init 20 = .ok (.bipush 24, 2) := by decide +kernel
theorem dX3_init_22 : decode cX3_init 22 = .ok (.newarray .int, 2) := by decide +kernel
theorem dX3_init_24 : decode cX3_init 24 = .ok (.putfield 18, 3) := by decide +kernel
theorem dX3_init_27 : decode cX3_init 27 = .ok (.aload_n 0, 1) := by decide +kernel
theorem dX3_init_28 : decode cX3_init 28 = .ok (.bipush 24, 2) := by decide +kernel
theorem dX3_init_30 : decode cX3_init 30 = .ok (.newarray .int, 2) := by decide +kernel
theorem dX3_init_32 : decode cX3_init 32 = .ok (.putfield 21, 3) := by decide +kernel
theorem dX3_init_35 : decode cX3_init 35 = .ok (.aload_n 0, 1) := by decide +kernel
theorem dX3_init_36 : decode cX3_init 36 = .ok (.iconst 0, 1) := by decide +kernel
theorem dX3_init_37 : decode cX3_init 37 = .ok (.putfield 24, 3) := by decide +kernel
theorem dX3_init_40 : decode cX3_init 40 = .ok (.aload_n 0, 1) := by decide +kernel
theorem dX3_init_41 : decode cX3_init 41 = .ok (.bipush 25, 2) := by decide +kernel
theorem dX3_init_43 : decode cX3_init 43 = .ok (.bipush 6, 2) := by decide +kernel
theorem dX3_init_45 : decode cX3_init 45 = .ok (.multianewarray 28 2, 4) := by decide +kernel
theorem dX3_init_49 : decode cX3_init 49 = .ok (.putfield 30, 3) := by decide +kernel
theorem dX3_init_52 : decode cX3_init 52 = .ok (.aload_n 0, 1) := by decide +kernel
theorem dX3_init_53 : decode cX3_init 53 = .ok (.iconst 0, 1) := by decide +kernel
theorem dX3_init_54 : decode cX3_init 54 = .ok (.putfield 33, 3) := by decide +kernel
theorem dX3_init_57 : decode cX3_init 57 = .ok (.return_, 1) := by decide +kernel
theorem dX3_isNone_0 : decode cX3_isNone 0 = .ok (.aload_n 0, 1) := by decide +kernel
theorem dX3_isNone_1 : decode cX3_isNone 1 = .ok (.getfield 24, 3) := by decide +kernel
theorem dX3_isNone_4 : decode cX3_isNone 4 = .ok (.ifCond .ne 7, 3) := by decide +kernel
theorem dX3_isNone_7 : decode cX3_isNone 7 = .ok (.iconst 1, 1) := by decide +kernel
theorem dX3_isNone_8 : decode cX3_isNone 8 = .ok (.goto 4, 3) := by decide +kernel
theorem dX3_isNone_11 : decode cX3_isNone 11 = .ok (.iconst 0, 1) := by decide +kernel
theorem dX3_isNone_12 : decode cX3_isNone 12 = .ok (.ireturn, 1) := by decide +kernel
theorem dX3_has_0 : decode cX3_has 0 = .ok (.iload_n 1, 1) := by decide +kernel
theorem dX3_has_1 : decode cX3_has 1 = .ok (.ifCond .lt 15, 3) := by decide +kernel
theorem dX3_has_4 : decode cX3_has 4 = .ok (.iload_n 1, 1) := by decide +kernel
theorem dX3_has_5 : decode cX3_has 5 = .ok (.aload_n 0, 1) := by decide +kernel
theorem dX3_has_6 : decode cX3_has 6 = .ok (.getfield 24, 3) := by decide +kernel
theorem dX3_has_9 : decode cX3_has 9 = .ok (.if_icmp .ge 7, 3) := by decide +kernel
theorem dX3_has_12 : decode cX3_has 12 = .ok (.iconst 1, 1) := by decide +kernel
theorem dX3_has_13 : decode cX3_has 13 = .ok (.goto 4, 3) := by decide +kernel
theorem dX3_has_16 : decode cX3_has 16 = .ok (.iconst 0, 1) := by decide +kernel
theorem dX3_has_17 : decode cX3_has 17 = .ok (.ireturn, 1) := by decide +kernel
theorem dX3_isLabelled_0 : decode cX3_isLabelled 0 = .ok (.aload_n 0, 1) := by decide +kernel
theorem dX3_isLabelled_1 : decode cX3_isLabelled 1 = .ok (.getfield 15, 3) := by decide +kernel
theorem dX3_isLabelled_4 : decode cX3_isLabelled 4 = .ok (.iload_n 1, 1) := by decide +kernel
theorem dX3_isLabelled_5 : decode cX3_isLabelled 5 = .ok (.iaload, 1) := by decide +kernel
theorem dX3_isLabelled_6 : decode cX3_isLabelled 6 = .ok (.iconst 4, 1) := by decide +kernel
theorem dX3_isLabelled_7 : decode cX3_isLabelled 7 = .ok (.if_icmp .eq 17, 3) := by decide +kernel
theorem dX3_isLabelled_10 : decode cX3_isLabelled 10 = .ok (.aload_n 0, 1) := by decide +kernel
theorem dX3_isLabelled_11 : decode cX3_isLabelled 11 = .ok (.getfield 15, 3) := by decide +kernel
theorem dX3_isLabelled_14 : decode cX3_isLabelled 14 = .ok (.iload_n 1, 1) := by decide +kernel
theorem dX3_isLabelled_15 : decode cX3_isLabelled 15 = .ok (.iaload, 1) := by decide +kernel
theorem dX3_isLabelled_16 : decode cX3_isLabelled 16 = .ok (.iconst 5, 1) := by decide +kernel
theorem dX3_isLabelled_17 : decode cX3_isLabelled 17 = .ok (.if_icmp .eq 7, 3) := by decide +kernel
theorem dX3_isLabelled_20 : decode cX3_isLabelled 20 = .ok (.iconst 1, 1) := by decide +kernel
theorem dX3_isLabelled_21 : decode cX3_isLabelled 21 = .ok (.goto 4, 3) := by decide +kernel
theorem dX3_isLabelled_24 : decode cX3_isLabelled 24 = .ok (.iconst 0, 1) := by decide +kernel
theorem dX3_isLabelled_25 : decode cX3_isLabelled 25 = .ok (.ireturn, 1) := by decide +kernel
theorem dX3_howManyOf_0 : decode cX3_howManyOf 0 = .ok (.iconst 0, 1) := by decide +kernel
theorem dX3_howManyOf_1 : decode cX3_howManyOf 1 = .ok (.istore_n 2, 1) := by decide +kernel
theorem dX3_howManyOf_2 : decode cX3_howManyOf 2 = .ok (.iconst 0, 1) := by decide +kernel
theorem dX3_howManyOf_3 : decode cX3_howManyOf 3 = .ok (.istore_n 3, 1) := by decide +kernel
theorem dX3_howManyOf_4 : decode cX3_howManyOf 4 = .ok (.iload_n 3, 1) := by decide +kernel
theorem dX3_howManyOf_5 : decode cX3_howManyOf 5 = .ok (.aload_n 0, 1) := by decide +kernel
theorem dX3_howManyOf_6 : decode cX3_howManyOf 6 = .ok (.getfield 24, 3) := by decide +kernel
theorem dX3_howManyOf_9 : decode cX3_howManyOf 9 = .ok (.if_icmp .ge 22, 3) := by decide +kernel
theorem dX3_howManyOf_12 : decode cX3_howManyOf 12 = .ok (.aload_n 0, 1) := by decide +kernel
theorem dX3_howManyOf_13 : decode cX3_howManyOf 13 = .ok (.getfield 15, 3) := by decide +kernel
theorem dX3_howManyOf_16 : decode cX3_howManyOf 16 = .ok (.iload_n 3, 1) := by decide +kernel
theorem dX3_howManyOf_17 : decode cX3_howManyOf 17 = .ok (.iaload, 1) := by decide +kernel
theorem dX3_howManyOf_18 : decode cX3_howManyOf 18 = .ok (.iload_n 1, 1) := by decide +kernel
theorem dX3_howManyOf_19 : decode cX3_howManyOf 19 = .ok (.if_icmp .ne 6, 3) := by decide +kernel
theorem dX3_howManyOf_22 : decode cX3_howManyOf 22 = .ok (.iinc 2 1, 3) := by decide +kernel
theorem dX3_howManyOf_25 : decode cX3_howManyOf 25 = .ok (.iinc 3 1, 3) := by decide +kernel
theorem dX3_howManyOf_28 : decode cX3_howManyOf 28 = .ok (.goto (-24), 3) := by decide +kernel
theorem dX3_howManyOf_31 : decode cX3_howManyOf 31 = .ok (.iload_n 2, 1) := by decide +kernel
theorem dX3_howManyOf_32 : decode cX3_howManyOf 32 = .ok (.ireturn, 1) := by decide +kernel
theorem dX3_become_0 : decode cX3_become 0 = .ok (.aload_n 1, 1) := by decide +kernel
theorem dX3_become_1 : decode cX3_become 1 = .ok (.getfield 9, 3) := by decide +kernel
theorem dX3_become_4 : decode cX3_become 4 = .ok (.iconst 0, 1) := by decide +kernel
theorem dX3_become_5 : decode cX3_become 5 = .ok (.aload_n 0, 1) := by decide +kernel
theorem dX3_become_6 : decode cX3_become 6 = .ok (.getfield 9, 3) := by decide +kernel
theorem dX3_become_9 : decode cX3_become 9 = .ok (.iconst 0, 1) := by decide +kernel
theorem dX3_become_10 : decode cX3_become 10 = .ok (.iconst 3, 1) := by decide +kernel
theorem dX3_become_11 : decode cX3_become 11 = .ok (.invokestatic 36, 3) := by decide +kernel
theorem dX3_become_14 : decode cX3_become 14 = .ok (.aload_n 1, 1) := by decide +kernel
theorem dX3_become_15 : decode cX3_become 15 = .ok (.getfield 15, 3) := by decide +kernel
theorem dX3_become_18 : decode cX3_become 18 = .ok (.iconst 0, 1) := by decide +kernel
theorem dX3_become_19 : decode cX3_become 19 = .ok (.aload_n 0, 1) := by decide +kernel
theorem dX3_become_20 : decode cX3_become 20 = .ok (.getfield 15, 3) := by decide +kernel
theorem dX3_become_23 : decode cX3_become 23 = .ok (.iconst 0, 1) := by decide +kernel
theorem dX3_become_24 : decode cX3_become 24 = .ok (.aload_n 1, 1) := by decide +kernel
theorem dX3_become_25 : decode cX3_become 25 = .ok (.getfield 24, 3) := by decide +kernel
theorem dX3_become_28 : decode cX3_become 28 = .ok (.invokestatic 36, 3) := by decide +kernel
theorem dX3_become_31 : decode cX3_become 31 = .ok (.aload_n 1, 1) := by decide +kernel
theorem dX3_become_32 : decode cX3_become 32 = .ok (.getfield 18, 3) := by decide +kernel
theorem dX3_become_35 : decode cX3_become 35 = .ok (.iconst 0, 1) := by decide +kernel
theorem dX3_become_36 : decode cX3_become 36 = .ok (.aload_n 0, 1) := by decide +kernel
theorem dX3_become_37 : decode cX3_become 37 = .ok (.getfield 18, 3) := by decide +kernel
theorem dX3_become_40 : decode cX3_become 40 = .ok (.iconst 0, 1) := by decide +kernel
theorem dX3_become_41 : decode cX3_become 41 = .ok (.aload_n 1, 1) := by decide +kernel
theorem dX3_become_42 : decode cX3_become 42 = .ok (.getfield 24, 3) := by decide +kernel
theorem dX3_become_45 : decode cX3_become 45 = .ok (.invokestatic 36, 3) := by decide +kernel
theorem dX3_become_48 : decode cX3_become 48 = .ok (.aload_n 1, 1) := by decide +kernel
theorem dX3_become_49 : decode cX3_become 49 = .ok (.getfield 21, 3) := by decide +kernel
theorem dX3_become_52 : decode cX3_become 52 = .ok (.iconst 0, 1) := by decide +kernel
theorem dX3_become_53 : decode cX3_become 53 = .ok (.aload_n 0, 1) := by decide +kernel
theorem dX3_become_54 : decode cX3_become 54 = .ok (.getfield 21, 3) := by decide +kernel
theorem dX3_become_57 : decode cX3_become 57 = .ok (.iconst 0, 1) := by decide +kernel
theorem dX3_become_58 : decode cX3_become 58 = .ok (.aload_n 1, 1) := by decide +kernel
theorem dX3_become_59 : decode cX3_become 59 = .ok (.getfield 24, 3) := by decide +kernel
theorem dX3_become_62 : decode cX3_become 62 = .ok (.invokestatic 36, 3) := by decide +kernel
theorem dX3_become_65 : decode cX3_become 65 = .ok (.aload_n 0, 1) := by decide +kernel
theorem dX3_become_66 : decode cX3_become 66 = .ok (.aload_n 1, 1) := by decide +kernel
theorem dX3_become_67 : decode cX3_become 67 = .ok (.getfield 24, 3) := by decide +kernel
theorem dX3_become_70 : decode cX3_become 70 = .ok (.putfield 24, 3) := by decide +kernel
theorem dX3_become_73 : decode cX3_become 73 = .ok (.aload_n 0, 1) := by decide +kernel
theorem dX3_become_74 : decode cX3_become 74 = .ok (.iconst 0, 1) := by decide +kernel
theorem dX3_become_75 : decode cX3_become 75 = .ok (.putfield 33, 3) := by decide +kernel
theorem dX3_become_78 : decode cX3_become 78 = .ok (.return_, 1) := by decide +kernel
theorem dX3_clear_0 : decode cX3_clear 0 = .ok (.aload_n 0, 1) := by decide +kernel
theorem dX3_clear_1 : decode cX3_clear 1 = .ok (.iconst 0, 1) := by decide +kernel
theorem dX3_clear_2 : decode cX3_clear 2 = .ok (.putfield 24, 3) := by decide +kernel
theorem dX3_clear_5 : decode cX3_clear 5 = .ok (.aload_n 0, 1) := by decide +kernel
theorem dX3_clear_6 : decode cX3_clear 6 = .ok (.iconst 0, 1) := by decide +kernel
theorem dX3_clear_7 : decode cX3_clear 7 = .ok (.putfield 33, 3) := by decide +kernel
theorem dX3_clear_10 : decode cX3_clear 10 = .ok (.return_, 1) := by decide +kernel
theorem dX3_insert_0 : decode cX3_insert 0 = .ok (.aload_n 0, 1) := by decide +kernel
theorem dX3_insert_1 : decode cX3_insert 1 = .ok (.getfield 24, 3) := by decide +kernel
theorem dX3_insert_4 : decode cX3_insert 4 = .ok (.bipush 24, 2) := by decide +kernel
theorem dX3_insert_6 : decode cX3_insert 6 = .ok (.if_icmp .ge 15, 3) := by decide +kernel
theorem dX3_insert_9 : decode cX3_insert 9 = .ok (.iload_n 1, 1) := by decide +kernel
theorem dX3_insert_10 : decode cX3_insert 10 = .ok (.ifCond .lt 11, 3) := by decide +kernel
theorem dX3_insert_13 : decode cX3_insert 13 = .ok (.iload_n 1, 1) := by decide +kernel
theorem dX3_insert_14 : decode cX3_insert 14 = .ok (.aload_n 0, 1) := by decide +kernel
theorem dX3_insert_15 : decode cX3_insert 15 = .ok (.getfield 24, 3) := by decide +kernel
theorem dX3_insert_18 : decode cX3_insert 18 = .ok (.if_icmp .le 4, 3) := by decide +kernel
theorem dX3_insert_21 : decode cX3_insert 21 = .ok (.return_, 1) := by decide +kernel
theorem dX3_insert_22 : decode cX3_insert 22 = .ok (.aload_n 0, 1) := by decide +kernel
theorem dX3_insert_23 : decode cX3_insert 23 = .ok (.iload_n 1, 1) := by decide +kernel
theorem dX3_insert_24 : decode cX3_insert 24 = .ok (.iload_n 1, 1) := by decide +kernel
theorem dX3_insert_25 : decode cX3_insert 25 = .ok (.iconst 1, 1) := by decide +kernel
theorem dX3_insert_26 : decode cX3_insert 26 = .ok (.iadd, 1) := by decide +kernel
theorem dX3_insert_27 : decode cX3_insert 27 = .ok (.aload_n 0, 1) := by decide +kernel
theorem dX3_insert_28 : decode cX3_insert 28 = .ok (.getfield 24, 3) := by decide +kernel
theorem dX3_insert_31 : decode cX3_insert 31 = .ok (.iload_n 1, 1) := by decide +kernel
theorem dX3_insert_32 : decode cX3_insert 32 = .ok (.isub, 1) := by decide +kernel
theorem dX3_insert_33 : decode cX3_insert 33 = .ok (.invokevirtual 42, 3) := by decide +kernel
theorem dX3_insert_36 : decode cX3_insert 36 = .ok (.aload_n 0, 1) := by decide +kernel
theorem dX3_insert_37 : decode cX3_insert 37 = .ok (.dup, 1) := by decide +kernel
theorem dX3_insert_38 : decode cX3_insert 38 = .ok (.getfield 24, 3) := by decide +kernel
theorem dX3_insert_41 : decode cX3_insert 41 = .ok (.iconst 1, 1) := by decide +kernel
theorem dX3_insert_42 : decode cX3_insert 42 = .ok (.iadd, 1) := by decide +kernel
theorem dX3_insert_43 : decode cX3_insert 43 = .ok (.putfield 24, 3) := by decide +kernel
theorem dX3_insert_46 : decode cX3_insert 46 = .ok (.aload_n 0, 1) := by decide +kernel
theorem dX3_insert_47 : decode cX3_insert 47 = .ok (.iload_n 1, 1) := by decide +kernel
theorem dX3_insert_48 : decode cX3_insert 48 = .ok (.iload_n 2, 1) := by decide +kernel
theorem dX3_insert_49 : decode cX3_insert 49 = .ok (.iload_n 3, 1) := by decide +kernel
theorem dX3_insert_50 : decode cX3_insert 50 = .ok (.iload 4, 2) := by decide +kernel
theorem dX3_insert_52 : decode cX3_insert 52 = .ok (.invokevirtual 46, 3) := by decide +kernel
theorem dX3_insert_55 : decode cX3_insert 55 = .ok (.return_, 1) := by decide +kernel
theorem dX3_remove_0 : decode cX3_remove 0 = .ok (.aload_n 0, 1) := by decide +kernel
theorem dX3_remove_1 : decode cX3_remove 1 = .ok (.iload_n 1, 1) := by decide +kernel
theorem dX3_remove_2 : decode cX3_remove 2 = .ok (.invokevirtual 50, 3) := by decide +kernel
theorem dX3_remove_5 : decode cX3_remove 5 = .ok (.ifCond .ne 4, 3) := by decide +kernel
theorem dX3_remove_8 : decode cX3_remove 8 = .ok (.return_, 1) := by decide +kernel
theorem dX3_remove_9 : decode cX3_remove 9 = .ok (.aload_n 0, 1) := by decide +kernel
theorem dX3_remove_10 : decode cX3_remove 10 = .ok (.iload_n 1, 1) := by decide +kernel
theorem dX3_remove_11 : decode cX3_remove 11 = .ok (.iconst 1, 1) := by decide +kernel
theorem dX3_remove_12 : decode cX3_remove 12 = .ok (.iadd, 1) := by decide +kernel
theorem dX3_remove_13 : decode cX3_remove 13 = .ok (.iload_n 1, 1) := by decide +kernel
theorem dX3_remove_14 : decode cX3_remove 14 = .ok (.aload_n 0, 1) := by decide +kernel
theorem dX3_remove_15 : decode cX3_remove 15 = .ok (.getfield 24, 3) := by decide +kernel
theorem dX3_remove_18 : decode cX3_remove 18 = .ok (.iload_n 1, 1) := by decide +kernel
theorem dX3_remove_19 : decode cX3_remove 19 = .ok (.isub, 1) := by decide +kernel
theorem dX3_remove_20 : decode cX3_remove 20 = .ok (.iconst 1, 1) := by decide +kernel
theorem dX3_remove_21 : decode cX3_remove 21 = .ok (.isub, 1) := by decide +kernel
theorem dX3_remove_22 : decode cX3_remove 22 = .ok (.invokevirtual 42, 3) := by decide +kernel
theorem dX3_remove_25 : decode cX3_remove 25 = .ok (.aload_n 0, 1) := by decide +kernel
theorem dX3_remove_26 : decode cX3_remove 26 = .ok (.dup, 1) := by decide +kernel
theorem dX3_remove_27 : decode cX3_remove 27 = .ok (.getfield 24, 3) := by decide +kernel
theorem dX3_remove_30 : decode cX3_remove 30 = .ok (.iconst 1, 1) := by decide +kernel
theorem dX3_remove_31 : decode cX3_remove 31 = .ok (.isub, 1) := by decide +kernel
theorem dX3_remove_32 : decode cX3_remove 32 = .ok (.putfield 24, 3) := by decide +kernel
theorem dX3_remove_35 : decode cX3_remove 35 = .ok (.aload_n 0, 1) := by decide +kernel
theorem dX3_remove_36 : decode cX3_remove 36 = .ok (.aload_n 0, 1) := by decide +kernel
theorem dX3_remove_37 : decode cX3_remove 37 = .ok (.getfield 33, 3) := by decide +kernel
theorem dX3_remove_40 : decode cX3_remove 40 = .ok (.iload_n 1, 1) := by decide +kernel
theorem dX3_remove_41 : decode cX3_remove 41 = .ok (.invokestatic 54, 3) := by decide +kernel
theorem dX3_remove_44 : decode cX3_remove 44 = .ok (.putfield 33, 3) := by decide +kernel
theorem dX3_remove_47 : decode cX3_remove 47 = .ok (.return_, 1) := by decide +kernel
theorem dX3_shift_0 : decode cX3_shift 0 = .ok (.aload_n 0, 1) := by decide +kernel
theorem dX3_shift_1 : decode cX3_shift 1 = .ok (.iload_n 1, 1) := by decide +kernel
theorem dX3_shift_2 : decode cX3_shift 2 = .ok (.invokevirtual 50, 3) := by decide +kernel
theorem dX3_shift_5 : decode cX3_shift 5 = .ok (.ifCond .eq 11, 3) := by decide +kernel
theorem dX3_shift_8 : decode cX3_shift 8 = .ok (.aload_n 0, 1) := by decide +kernel
theorem dX3_shift_9 : decode cX3_shift 9 = .ok (.iload_n 2, 1) := by decide +kernel
theorem dX3_shift_10 : decode cX3_shift 10 = .ok (.invokevirtual 50, 3) := by decide +kernel
theorem dX3_shift_13 : decode cX3_shift 13 = .ok (.ifCond .ne 4, 3) := by decide +kernel
theorem dX3_shift_16 : decode cX3_shift 16 = .ok (.return_, 1) := by decide +kernel
theorem dX3_shift_17 : decode cX3_shift 17 = .ok (.aload_n 0, 1) := by decide +kernel
theorem dX3_shift_18 : decode cX3_shift 18 = .ok (.getfield 15, 3) := by decide +kernel
theorem dX3_shift_21 : decode cX3_shift 21 = .ok (.iload_n 1, 1) := by decide +kernel
theorem dX3_shift_22 : decode cX3_shift 22 = .ok (.iaload, 1) := by decide +kernel
theorem dX3_shift_23 : decode cX3_shift 23 = .ok (.istore_n 3, 1) := by decide +kernel
theorem dX3_shift_24 : decode cX3_shift 24 = .ok (.aload_n 0, 1) := by decide +kernel
theorem dX3_shift_25 : decode cX3_shift 25 = .ok (.getfield 18, 3) := by decide +kernel
theorem dX3_shift_28 : decode cX3_shift 28 = .ok (.iload_n 1, 1) := by decide +kernel
theorem dX3_shift_29 : decode cX3_shift 29 = .ok (.iaload, 1) := by decide +kernel
theorem dX3_shift_30 : decode cX3_shift 30 = .ok (.istore 4, 2) := by decide +kernel
theorem dX3_shift_32 : decode cX3_shift 32 = .ok (.aload_n 0, 1) := by decide +kernel
theorem dX3_shift_33 : decode cX3_shift 33 = .ok (.getfield 21, 3) := by decide +kernel
theorem dX3_shift_36 : decode cX3_shift 36 = .ok (.iload_n 1, 1) := by decide +kernel
theorem dX3_shift_37 : decode cX3_shift 37 = .ok (.iaload, 1) := by decide +kernel
theorem dX3_shift_38 : decode cX3_shift 38 = .ok (.istore 5, 2) := by decide +kernel
theorem dX3_shift_40 : decode cX3_shift 40 = .ok (.aload_n 0, 1) := by decide +kernel
theorem dX3_shift_41 : decode cX3_shift 41 = .ok (.iload_n 1, 1) := by decide +kernel
theorem dX3_shift_42 : decode cX3_shift 42 = .ok (.invokevirtual 60, 3) := by decide +kernel
theorem dX3_shift_45 : decode cX3_shift 45 = .ok (.aload_n 0, 1) := by decide +kernel
theorem dX3_shift_46 : decode cX3_shift 46 = .ok (.iload_n 2, 1) := by decide +kernel
theorem dX3_shift_47 : decode cX3_shift 47 = .ok (.iload_n 3, 1) := by decide +kernel
theorem dX3_shift_48 : decode cX3_shift 48 = .ok (.iload 4, 2) := by decide +kernel
theorem dX3_shift_50 : decode cX3_shift 50 = .ok (.iload 5, 2) := by decide +kernel
theorem dX3_shift_52 : decode cX3_shift 52 = .ok (.invokevirtual 64, 3) := by decide +kernel
theorem dX3_shift_55 : decode cX3_shift 55 = .ok (.return_, 1) := by decide +kernel
theorem dX3_alter_0 : decode cX3_alter 0 = .ok (.aload_n 0, 1) := by decide +kernel
theorem dX3_alter_1 : decode cX3_alter 1 = .ok (.iload_n 1, 1) := by decide +kernel
theorem dX3_alter_2 : decode cX3_alter 2 = .ok (.invokevirtual 50, 3) := by decide +kernel
theorem dX3_alter_5 : decode cX3_alter 5 = .ok (.ifCond .ne 4, 3) := by decide +kernel
theorem dX3_alter_8 : decode cX3_alter 8 = .ok (.return_, 1) := by decide +kernel
theorem dX3_alter_9 : decode cX3_alter 9 = .ok (.aload_n 0, 1) := by decide +kernel
theorem dX3_alter_10 : decode cX3_alter 10 = .ok (.getfield 15, 3) := by decide +kernel
theorem dX3_alter_13 : decode cX3_alter 13 = .ok (.iload_n 1, 1) := by decide +kernel
theorem dX3_alter_14 : decode cX3_alter 14 = .ok (.iload_n 2, 1) := by decide +kernel
theorem dX3_alter_15 : decode cX3_alter 15 = .ok (.iastore, 1) := by decide +kernel
theorem dX3_alter_16 : decode cX3_alter 16 = .ok (.aload_n 0, 1) := by decide +kernel
theorem dX3_alter_17 : decode cX3_alter 17 = .ok (.getfield 18, 3) := by decide +kernel
theorem dX3_alter_20 : decode cX3_alter 20 = .ok (.iload_n 1, 1) := by decide +kernel
theorem dX3_alter_21 : decode cX3_alter 21 = .ok (.iload_n 3, 1) := by decide +kernel
theorem dX3_alter_22 : decode cX3_alter 22 = .ok (.iastore, 1) := by decide +kernel
theorem dX3_alter_23 : decode cX3_alter 23 = .ok (.aload_n 0, 1) := by decide +kernel
theorem dX3_alter_24 : decode cX3_alter 24 = .ok (.getfield 21, 3) := by decide +kernel
theorem dX3_alter_27 : decode cX3_alter 27 = .ok (.iload_n 1, 1) := by decide +kernel
theorem dX3_alter_28 : decode cX3_alter 28 = .ok (.iload 4, 2) := by decide +kernel
theorem dX3_alter_30 : decode cX3_alter 30 = .ok (.iastore, 1) := by decide +kernel
theorem dX3_alter_31 : decode cX3_alter 31 = .ok (.aload_n 0, 1) := by decide +kernel
theorem dX3_alter_32 : decode cX3_alter 32 = .ok (.aload_n 0, 1) := by decide +kernel
theorem dX3_alter_33 : decode cX3_alter 33 = .ok (.getfield 33, 3) := by decide +kernel
theorem dX3_alter_36 : decode cX3_alter 36 = .ok (.iload_n 1, 1) := by decide +kernel
theorem dX3_alter_37 : decode cX3_alter 37 = .ok (.invokestatic 54, 3) := by decide +kernel
theorem dX3_alter_40 : decode cX3_alter 40 = .ok (.putfield 33, 3) := by decide +kernel
theorem dX3_alter_43 : decode cX3_alter 43 = .ok (.return_, 1) := by decide +kernel
theorem dX3_editBy_0 : decode cX3_editBy 0 = .ok (.aload_n 0, 1) := by decide +kernel
theorem dX3_editBy_1 : decode cX3_editBy 1 = .ok (.getfield 24, 3) := by decide +kernel
theorem dX3_editBy_4 : decode cX3_editBy 4 = .ok (.iconst 1, 1) := by decide +kernel
theorem dX3_editBy_5 : decode cX3_editBy 5 = .ok (.if_icmp .ge 4, 3) := by decide +kernel
theorem dX3_editBy_8 : decode cX3_editBy 8 = .ok (.return_, 1) := by decide +kernel
theorem dX3_editBy_9 : decode cX3_editBy 9 = .ok (.lload_n 1, 1) := by decide +kernel
theorem dX3_editBy_10 : decode cX3_editBy 10 = .ok (.ldc2_w 67, 3) := by decide +kernel
theorem dX3_editBy_13 : decode cX3_editBy 13 = .ok (.ldiv, 1) := by decide +kernel
theorem dX3_editBy_14 : decode cX3_editBy 14 = .ok (.aload_n 0, 1) := by decide +kernel
theorem dX3_editBy_15 : decode cX3_editBy 15 = .ok (.getfield 24, 3) := by decide +kernel
theorem dX3_editBy_18 : decode cX3_editBy 18 = .ok (.i2l, 1) := by decide +kernel
theorem dX3_editBy_19 : decode cX3_editBy 19 = .ok (.lrem, 1) := by decide +kernel
theorem dX3_editBy_20 : decode cX3_editBy 20 = .ok (.l2i, 1) := by decide +kernel
theorem dX3_editBy_21 : decode cX3_editBy 21 = .ok (.istore_n 3, 1) := by decide +kernel
theorem dX3_editBy_22 : decode cX3_editBy 22 = .ok (.lload_n 1, 1) := by decide +kernel
theorem dX3_editBy_23 : decode cX3_editBy 23 = .ok (.ldc2_w 69, 3) := by decide +kernel
theorem dX3_editBy_26 : decode cX3_editBy 26 = .ok (.lrem, 1) := by decide +kernel
theorem dX3_editBy_27 : decode cX3_editBy 27 = .ok (.lconst 0, 1) := by decide +kernel
theorem dX3_editBy_28 : decode cX3_editBy 28 = .ok (.lcmp, 1) := by decide +kernel
theorem dX3_editBy_29 : decode cX3_editBy 29 = .ok (.ifCond .ne 64, 3) := by decide +kernel
theorem dX3_editBy_32 : decode cX3_editBy 32 = .ok (.aload_n 0, 1) := by decide +kernel
theorem dX3_editBy_33 : decode cX3_editBy 33 = .ok (.getfield 24, 3) := by decide +kernel
theorem dX3_editBy_36 : decode cX3_editBy 36 = .ok (.bipush 24, 2) := by decide +kernel
theorem dX3_editBy_38 : decode cX3_editBy 38 = .ok (.if_icmp .ge 55, 3) := by decide +kernel
theorem dX3_editBy_41 : decode cX3_editBy 41 = .ok (.iconst 1, 1) := by decide +kernel
theorem dX3_editBy_42 : decode cX3_editBy 42 = .ok (.lload_n 1, 1) := by decide +kernel
theorem dX3_editBy_43 : decode cX3_editBy 43 = .ok (.ldc2_w 71, 3) := by decide +kernel
theorem dX3_editBy_46 : decode cX3_editBy 46 = .ok (.ldiv, 1) := by decide +kernel
theorem dX3_editBy_47 : decode cX3_editBy 47 = .ok (.ldc2_w 73, 3) := by decide +kernel
theorem dX3_editBy_50 : decode cX3_editBy 50 = .ok (.lrem, 1) := by decide +kernel
theorem dX3_editBy_51 : decode cX3_editBy 51 = .ok (.l2i, 1) := by decide +kernel
theorem dX3_editBy_52 : decode cX3_editBy 52 = .ok (.iadd, 1) := by decide +kernel
theorem dX3_editBy_53 : decode cX3_editBy 53 = .ok (.istore 4, 2) := by decide +kernel
theorem dX3_editBy_55 : decode cX3_editBy 55 = .ok (.lload_n 1, 1) := by decide +kernel
theorem dX3_editBy_56 : decode cX3_editBy 56 = .ok (.ldc2_w 75, 3) := by decide +kernel
theorem dX3_editBy_59 : decode cX3_editBy 59 = .ok (.ldiv, 1) := by decide +kernel
theorem dX3_editBy_60 : decode cX3_editBy 60 = .ok (.ldc2_w 77, 3) := by decide +kernel
theorem dX3_editBy_63 : decode cX3_editBy 63 = .ok (.lrem, 1) := by decide +kernel
theorem dX3_editBy_64 : decode cX3_editBy 64 = .ok (.l2i, 1) := by decide +kernel
theorem dX3_editBy_65 : decode cX3_editBy 65 = .ok (.istore 5, 2) := by decide +kernel
theorem dX3_editBy_67 : decode cX3_editBy 67 = .ok (.lload_n 1, 1) := by decide +kernel
theorem dX3_editBy_68 : decode cX3_editBy 68 = .ok (.ldc2_w 79, 3) := by decide +kernel
theorem dX3_editBy_71 : decode cX3_editBy 71 = .ok (.ldiv, 1) := by decide +kernel
theorem dX3_editBy_72 : decode cX3_editBy 72 = .ok (.ldc2_w 81, 3) := by decide +kernel
theorem dX3_editBy_75 : decode cX3_editBy 75 = .ok (.lrem, 1) := by decide +kernel
theorem dX3_editBy_76 : decode cX3_editBy 76 = .ok (.l2i, 1) := by decide +kernel
theorem dX3_editBy_77 : decode cX3_editBy 77 = .ok (.istore 6, 2) := by decide +kernel
theorem dX3_editBy_79 : decode cX3_editBy 79 = .ok (.aload_n 0, 1) := by decide +kernel
theorem dX3_editBy_80 : decode cX3_editBy 80 = .ok (.iload_n 3, 1) := by decide +kernel
theorem dX3_editBy_81 : decode cX3_editBy 81 = .ok (.iload 4, 2) := by decide +kernel
theorem dX3_editBy_83 : decode cX3_editBy 83 = .ok (.iload 5, 2) := by decide +kernel
theorem dX3_editBy_85 : decode cX3_editBy 85 = .ok (.iload 6, 2) := by decide +kernel
theorem dX3_editBy_87 : decode cX3_editBy 87 = .ok (.invokevirtual 64, 3) := by decide +kernel
theorem dX3_editBy_90 : decode cX3_editBy 90 = .ok (.goto 16, 3) := by decide +kernel
theorem dX3_editBy_93 : decode cX3_editBy 93 = .ok (.aload_n 0, 1) := by decide +kernel
theorem dX3_editBy_94 : decode cX3_editBy 94 = .ok (.getfield 24, 3) := by decide +kernel
theorem dX3_editBy_97 : decode cX3_editBy 97 = .ok (.iconst 1, 1) := by decide +kernel
theorem dX3_editBy_98 : decode cX3_editBy 98 = .ok (.if_icmp .le 8, 3) := by decide +kernel
theorem dX3_editBy_101 : decode cX3_editBy 101 = .ok (.aload_n 0, 1) := by decide +kernel
theorem dX3_editBy_102 : decode cX3_editBy 102 = .ok (.iload_n 3, 1) := by decide +kernel
theorem dX3_editBy_103 : decode cX3_editBy 103 = .ok (.invokevirtual 60, 3) := by decide +kernel
theorem dX3_editBy_106 : decode cX3_editBy 106 = .ok (.return_, 1) := by decide +kernel
theorem dX3_countOver_0 : decode cX3_countOver 0 = .ok (.aload_n 2, 1) := by decide +kernel
theorem dX3_countOver_1 : decode cX3_countOver 1 = .ok (.aload_n 0, 1) := by decide +kernel
theorem dX3_countOver_2 : decode cX3_countOver 2 = .ok (.getfield 15, 3) := by decide +kernel
theorem dX3_countOver_5 : decode cX3_countOver 5 = .ok (.iload_n 1, 1) := by decide +kernel
theorem dX3_countOver_6 : decode cX3_countOver 6 = .ok (.iaload, 1) := by decide +kernel
theorem dX3_countOver_7 : decode cX3_countOver 7 = .ok (.aload_n 0, 1) := by decide +kernel
theorem dX3_countOver_8 : decode cX3_countOver 8 = .ok (.getfield 18, 3) := by decide +kernel
theorem dX3_countOver_11 : decode cX3_countOver 11 = .ok (.iload_n 1, 1) := by decide +kernel
theorem dX3_countOver_12 : decode cX3_countOver 12 = .ok (.iaload, 1) := by decide +kernel
theorem dX3_countOver_13 : decode cX3_countOver 13 = .ok (.aload_n 0, 1) := by decide +kernel
theorem dX3_countOver_14 : decode cX3_countOver 14 = .ok (.getfield 21, 3) := by decide +kernel
theorem dX3_countOver_17 : decode cX3_countOver 17 = .ok (.iload_n 1, 1) := by decide +kernel
theorem dX3_countOver_18 : decode cX3_countOver 18 = .ok (.iaload, 1) := by decide +kernel
theorem dX3_countOver_19 : decode cX3_countOver 19 = .ok (.invokestatic 83, 3) := by decide +kernel
theorem dX3_countOver_22 : decode cX3_countOver 22 = .ok (.return_, 1) := by decide +kernel
theorem dX3_ahead_0 : decode cX3_ahead 0 = .ok (.iconst 0, 1) := by decide +kernel
theorem dX3_ahead_1 : decode cX3_ahead 1 = .ok (.iload_n 1, 1) := by decide +kernel
theorem dX3_ahead_2 : decode cX3_ahead 2 = .ok (.aload_n 0, 1) := by decide +kernel
theorem dX3_ahead_3 : decode cX3_ahead 3 = .ok (.getfield 24, 3) := by decide +kernel
theorem dX3_ahead_6 : decode cX3_ahead 6 = .ok (.invokestatic 54, 3) := by decide +kernel
theorem dX3_ahead_9 : decode cX3_ahead 9 = .ok (.invokestatic 89, 3) := by decide +kernel
theorem dX3_ahead_12 : decode cX3_ahead 12 = .ok (.istore_n 2, 1) := by decide +kernel
theorem dX3_ahead_13 : decode cX3_ahead 13 = .ok (.aload_n 0, 1) := by decide +kernel
theorem dX3_ahead_14 : decode cX3_ahead 14 = .ok (.getfield 33, 3) := by decide +kernel
theorem dX3_ahead_17 : decode cX3_ahead 17 = .ok (.iload_n 2, 1) := by decide +kernel
theorem dX3_ahead_18 : decode cX3_ahead 18 = .ok (.if_icmp .ge 76, 3) := by decide +kernel
theorem dX3_ahead_21 : decode cX3_ahead 21 = .ok (.aload_n 0, 1) := by decide +kernel
theorem dX3_ahead_22 : decode cX3_ahead 22 = .ok (.getfield 30, 3) := by decide +kernel
theorem dX3_ahead_25 : decode cX3_ahead 25 = .ok (.aload_n 0, 1) := by decide +kernel
theorem dX3_ahead_26 : decode cX3_ahead 26 = .ok (.getfield 33, 3) := by decide +kernel
theorem dX3_ahead_29 : decode cX3_ahead 29 = .ok (.iconst 1, 1) := by decide +kernel
theorem dX3_ahead_30 : decode cX3_ahead 30 = .ok (.iadd, 1) := by decide +kernel
theorem dX3_ahead_31 : decode cX3_ahead 31 = .ok (.aaload, 1) := by decide +kernel
theorem dX3_ahead_32 : decode cX3_ahead 32 = .ok (.astore_n 3, 1) := by decide +kernel
theorem dX3_ahead_33 : decode cX3_ahead 33 = .ok (.aload_n 0, 1) := by decide +kernel
theorem dX3_ahead_34 : decode cX3_ahead 34 = .ok (.getfield 30, 3) := by decide +kernel
theorem dX3_ahead_37 : decode cX3_ahead 37 = .ok (.aload_n 0, 1) := by decide +kernel
theorem dX3_ahead_38 : decode cX3_ahead 38 = .ok (.getfield 33, 3) := by decide +kernel
theorem dX3_ahead_41 : decode cX3_ahead 41 = .ok (.aaload, 1) := by decide +kernel
theorem dX3_ahead_42 : decode cX3_ahead 42 = .ok (.iconst 0, 1) := by decide +kernel
theorem dX3_ahead_43 : decode cX3_ahead 43 = .ok (.aload_n 3, 1) := by decide +kernel
theorem dX3_ahead_44 : decode cX3_ahead 44 = .ok (.iconst 0, 1) := by decide +kernel
theorem dX3_ahead_45 : decode cX3_ahead 45 = .ok (.bipush 6, 2) := by decide +kernel
theorem dX3_ahead_47 : decode cX3_ahead 47 = .ok (.invokestatic 36, 3) := by decide +kernel
theorem dX3_ahead_50 : decode cX3_ahead 50 = .ok (.aload_n 3, 1) := by decide +kernel
theorem dX3_ahead_51 : decode cX3_ahead 51 = .ok (.aload_n 0, 1) := by decide +kernel
theorem dX3_ahead_52 : decode cX3_ahead 52 = .ok (.getfield 15, 3) := by decide +kernel
theorem dX3_ahead_55 : decode cX3_ahead 55 = .ok (.aload_n 0, 1) := by decide +kernel
theorem dX3_ahead_56 : decode cX3_ahead 56 = .ok (.getfield 33, 3) := by decide +kernel
theorem dX3_ahead_59 : decode cX3_ahead 59 = .ok (.iaload, 1) := by decide +kernel
theorem dX3_ahead_60 : decode cX3_ahead 60 = .ok (.aload_n 0, 1) := by decide +kernel
theorem dX3_ahead_61 : decode cX3_ahead 61 = .ok (.getfield 18, 3) := by decide +kernel
theorem dX3_ahead_64 : decode cX3_ahead 64 = .ok (.aload_n 0, 1) := by decide +kernel
theorem dX3_ahead_65 : decode cX3_ahead 65 = .ok (.getfield 33, 3) := by decide +kernel
theorem dX3_ahead_68 : decode cX3_ahead 68 = .ok (.iaload, 1) := by decide +kernel
theorem dX3_ahead_69 : decode cX3_ahead 69 = .ok (.aload_n 0, 1) := by decide +kernel
theorem dX3_ahead_70 : decode cX3_ahead 70 = .ok (.getfield 21, 3) := by decide +kernel
theorem dX3_ahead_73 : decode cX3_ahead 73 = .ok (.aload_n 0, 1) := by decide +kernel
theorem dX3_ahead_74 : decode cX3_ahead 74 = .ok (.getfield 33, 3) := by decide +kernel
theorem dX3_ahead_77 : decode cX3_ahead 77 = .ok (.iaload, 1) := by decide +kernel
theorem dX3_ahead_78 : decode cX3_ahead 78 = .ok (.invokestatic 83, 3) := by decide +kernel
theorem dX3_ahead_81 : decode cX3_ahead 81 = .ok (.aload_n 0, 1) := by decide +kernel
theorem dX3_ahead_82 : decode cX3_ahead 82 = .ok (.dup, 1) := by decide +kernel
theorem dX3_ahead_83 : decode cX3_ahead 83 = .ok (.getfield 33, 3) := by decide +kernel
theorem dX3_ahead_86 : decode cX3_ahead 86 = .ok (.iconst 1, 1) := by decide +kernel
theorem dX3_ahead_87 : decode cX3_ahead 87 = .ok (.iadd, 1) := by decide +kernel
theorem dX3_ahead_88 : decode cX3_ahead 88 = .ok (.putfield 33, 3) := by decide +kernel
theorem dX3_ahead_91 : decode cX3_ahead 91 = .ok (.goto (-78), 3) := by decide +kernel
theorem dX3_ahead_94 : decode cX3_ahead 94 = .ok (.aload_n 0, 1) := by decide +kernel
theorem dX3_ahead_95 : decode cX3_ahead 95 = .ok (.getfield 30, 3) := by decide +kernel
theorem dX3_ahead_98 : decode cX3_ahead 98 = .ok (.iload_n 2, 1) := by decide +kernel
theorem dX3_ahead_99 : decode cX3_ahead 99 = .ok (.aaload, 1) := by decide +kernel
theorem dX3_ahead_100 : decode cX3_ahead 100 = .ok (.areturn, 1) := by decide +kernel
theorem dX3_behind_0 : decode cX3_behind 0 = .ok (.aload_n 0, 1) := by decide +kernel
theorem dX3_behind_1 : decode cX3_behind 1 = .ok (.iload_n 1, 1) := by decide +kernel
theorem dX3_behind_2 : decode cX3_behind 2 = .ok (.iconst 1, 1) := by decide +kernel
theorem dX3_behind_3 : decode cX3_behind 3 = .ok (.iadd, 1) := by decide +kernel
theorem dX3_behind_4 : decode cX3_behind 4 = .ok (.invokevirtual 92, 3) := by decide +kernel
theorem dX3_behind_7 : decode cX3_behind 7 = .ok (.areturn, 1) := by decide +kernel
theorem dX3_ownCount_0 : decode cX3_ownCount 0 = .ok (.aload_n 0, 1) := by decide +kernel
theorem dX3_ownCount_1 : decode cX3_ownCount 1 = .ok (.iload_n 1, 1) := by decide +kernel
theorem dX3_ownCount_2 : decode cX3_ownCount 2 = .ok (.iconst 1, 1) := by decide +kernel
theorem dX3_ownCount_3 : decode cX3_ownCount 3 = .ok (.iadd, 1) := by decide +kernel
theorem dX3_ownCount_4 : decode cX3_ownCount 4 = .ok (.invokevirtual 92, 3) := by decide +kernel
theorem dX3_ownCount_7 : decode cX3_ownCount 7 = .ok (.aload_n 0, 1) := by decide +kernel
theorem dX3_ownCount_8 : decode cX3_ownCount 8 = .ok (.getfield 18, 3) := by decide +kernel
theorem dX3_ownCount_11 : decode cX3_ownCount 11 = .ok (.iload_n 1, 1) := by decide +kernel
theorem dX3_ownCount_12 : decode cX3_ownCount 12 = .ok (.iaload, 1) := by decide +kernel
theorem dX3_ownCount_13 : decode cX3_ownCount 13 = .ok (.iaload, 1) := by decide +kernel
theorem dX3_ownCount_14 : decode cX3_ownCount 14 = .ok (.ireturn, 1) := by decide +kernel
theorem dX3_lastCounts_0 : decode cX3_lastCounts 0 = .ok (.aload_n 0, 1) := by decide +kernel
theorem dX3_lastCounts_1 : decode cX3_lastCounts 1 = .ok (.aload_n 0, 1) := by decide +kernel
theorem dX3_lastCounts_2 : decode cX3_lastCounts 2 = .ok (.getfield 24, 3) := by decide +kernel
theorem dX3_lastCounts_5 : decode cX3_lastCounts 5 = .ok (.invokevirtual 92, 3) := by decide +kernel
theorem dX3_lastCounts_8 : decode cX3_lastCounts 8 = .ok (.astore_n 1, 1) := by decide +kernel
theorem dX3_lastCounts_9 : decode cX3_lastCounts 9 = .ok (.iconst 0, 1) := by decide +kernel
theorem dX3_lastCounts_10 : decode cX3_lastCounts 10 = .ok (.istore_n 2, 1) := by decide +kernel
theorem dX3_lastCounts_11 : decode cX3_lastCounts 11 = .ok (.iconst 0, 1) := by decide +kernel
theorem dX3_lastCounts_12 : decode cX3_lastCounts 12 = .ok (.istore_n 3, 1) := by decide +kernel
theorem dX3_lastCounts_13 : decode cX3_lastCounts 13 = .ok (.iload_n 3, 1) := by decide +kernel
theorem dX3_lastCounts_14 : decode cX3_lastCounts 14 = .ok (.iconst 3, 1) := by decide +kernel
theorem dX3_lastCounts_15 : decode cX3_lastCounts 15 = .ok (.if_icmp .ge 15, 3) := by decide +kernel
theorem dX3_lastCounts_18 : decode cX3_lastCounts 18 = .ok (.iload_n 2, 1) := by decide +kernel
theorem dX3_lastCounts_19 : decode cX3_lastCounts 19 = .ok (.aload_n 1, 1) := by decide +kernel
theorem dX3_lastCounts_20 : decode cX3_lastCounts 20 = .ok (.iload_n 3, 1) := by decide +kernel
theorem dX3_lastCounts_21 : decode cX3_lastCounts 21 = .ok (.iaload, 1) := by decide +kernel
theorem dX3_lastCounts_22 : decode cX3_lastCounts 22 = .ok (.iadd, 1) := by decide +kernel
theorem dX3_lastCounts_23 : decode cX3_lastCounts 23 = .ok (.istore_n 2, 1) := by decide +kernel
theorem dX3_lastCounts_24 : decode cX3_lastCounts 24 = .ok (.iinc 3 1, 3) := by decide +kernel
theorem dX3_lastCounts_27 : decode cX3_lastCounts 27 = .ok (.goto (-14), 3) := by decide +kernel
theorem dX3_lastCounts_30 : decode cX3_lastCounts 30 = .ok (.iload_n 2, 1) := by decide +kernel
theorem dX3_lastCounts_31 : decode cX3_lastCounts 31 = .ok (.ireturn, 1) := by decide +kernel
theorem dX3_isToldBy_0 : decode cX3_isToldBy 0 = .ok (.iconst 0, 1) := by decide +kernel
theorem dX3_isToldBy_1 : decode cX3_isToldBy 1 = .ok (.istore 4, 2) := by decide +kernel
theorem dX3_isToldBy_3 : decode cX3_isToldBy 3 = .ok (.iload 4, 2) := by decide +kernel
theorem dX3_isToldBy_5 : decode cX3_isToldBy 5 = .ok (.iload_n 3, 1) := by decide +kernel
theorem dX3_isToldBy_6 : decode cX3_isToldBy 6 = .ok (.if_icmp .ge 46, 3) := by decide +kernel
theorem dX3_isToldBy_9 : decode cX3_isToldBy 9 = .ok (.aload_n 0, 1) := by decide +kernel
theorem dX3_isToldBy_10 : decode cX3_isToldBy 10 = .ok (.iload 4, 2) := by decide +kernel
theorem dX3_isToldBy_12 : decode cX3_isToldBy 12 = .ok (.invokevirtual 96, 3) := by decide +kernel
theorem dX3_isToldBy_15 : decode cX3_isToldBy 15 = .ok (.ifCond .eq 12, 3) := by decide +kernel
theorem dX3_isToldBy_18 : decode cX3_isToldBy 18 = .ok (.aload_n 0, 1) := by decide +kernel
theorem dX3_isToldBy_19 : decode cX3_isToldBy 19 = .ok (.iload 4, 2) := by decide +kernel
theorem dX3_isToldBy_21 : decode cX3_isToldBy 21 = .ok (.invokevirtual 99, 3) := by decide +kernel
theorem dX3_isToldBy_24 : decode cX3_isToldBy 24 = .ok (.goto 4, 3) := by decide +kernel
theorem dX3_isToldBy_27 : decode cX3_isToldBy 27 = .ok (.iconst 0, 1) := by decide +kernel
theorem dX3_isToldBy_28 : decode cX3_isToldBy 28 = .ok (.istore 5, 2) := by decide +kernel
theorem dX3_isToldBy_30 : decode cX3_isToldBy 30 = .ok (.aload_n 1, 1) := by decide +kernel
theorem dX3_isToldBy_31 : decode cX3_isToldBy 31 = .ok (.getfield 103, 3) := by decide +kernel
theorem dX3_isToldBy_34 : decode cX3_isToldBy 34 = .ok (.iload_n 2, 1) := by decide +kernel
theorem dX3_isToldBy_35 : decode cX3_isToldBy 35 = .ok (.iload 4, 2) := by decide +kernel
theorem dX3_isToldBy_37 : decode cX3_isToldBy 37 = .ok (.iadd, 1) := by decide +kernel
theorem dX3_isToldBy_38 : decode cX3_isToldBy 38 = .ok (.iaload, 1) := by decide +kernel
theorem dX3_isToldBy_39 : decode cX3_isToldBy 39 = .ok (.iload 5, 2) := by decide +kernel
theorem dX3_isToldBy_41 : decode cX3_isToldBy 41 = .ok (.if_icmp .eq 5, 3) := by decide +kernel
theorem dX3_isToldBy_44 : decode cX3_isToldBy 44 = .ok (.iconst 0, 1) := by decide +kernel
theorem dX3_isToldBy_45 : decode cX3_isToldBy 45 = .ok (.ireturn, 1) := by decide +kernel
theorem dX3_isToldBy_46 : decode cX3_isToldBy 46 = .ok (.iinc 4 1, 3) := by decide +kernel
theorem dX3_isToldBy_49 : decode cX3_isToldBy 49 = .ok (.goto (-46), 3) := by decide +kernel
theorem dX3_isToldBy_52 : decode cX3_isToldBy 52 = .ok (.iconst 1, 1) := by decide +kernel
theorem dX3_isToldBy_53 : decode cX3_isToldBy 53 = .ok (.ireturn, 1) := by decide +kernel
theorem dX3_writeLabel_0 : decode cX3_writeLabel 0 = .ok (.aload_n 3, 1) := by decide +kernel
theorem dX3_writeLabel_1 : decode cX3_writeLabel 1 = .ok (.iconst 0, 1) := by decide +kernel
theorem dX3_writeLabel_2 : decode cX3_writeLabel 2 = .ok (.putfield 108, 3) := by decide +kernel
theorem dX3_writeLabel_5 : decode cX3_writeLabel 5 = .ok (.aload_n 0, 1) := by decide +kernel
theorem dX3_writeLabel_6 : decode cX3_writeLabel 6 = .ok (.iload_n 1, 1) := by decide +kernel
theorem dX3_writeLabel_7 : decode cX3_writeLabel 7 = .ok (.invokevirtual 96, 3) := by decide +kernel
theorem dX3_writeLabel_10 : decode cX3_writeLabel 10 = .ok (.ifCond .ne 4, 3) := by decide +kernel
theorem dX3_writeLabel_13 : decode cX3_writeLabel 13 = .ok (.return_, 1) := by decide +kernel
theorem dX3_writeLabel_14 : decode cX3_writeLabel 14 = .ok (.aload_n 0, 1) := by decide +kernel
theorem dX3_writeLabel_15 : decode cX3_writeLabel 15 = .ok (.getfield 18, 3) := by decide +kernel
theorem dX3_writeLabel_18 : decode cX3_writeLabel 18 = .ok (.iload_n 1, 1) := by decide +kernel
theorem dX3_writeLabel_19 : decode cX3_writeLabel 19 = .ok (.iaload, 1) := by decide +kernel
theorem dX3_writeLabel_20 : decode cX3_writeLabel 20 = .ok (.istore 4, 2) := by decide +kernel
theorem dX3_writeLabel_22 : decode cX3_writeLabel 22 = .ok (.aload_n 0, 1) := by decide +kernel
theorem dX3_writeLabel_23 : decode cX3_writeLabel 23 = .ok (.iload_n 1, 1) := by decide +kernel
theorem dX3_writeLabel_24 : decode cX3_writeLabel 24 = .ok (.invokevirtual 113, 3) := by decide +kernel
theorem dX3_writeLabel_27 : decode cX3_writeLabel 27 = .ok (.astore 5, 2) := by decide +kernel
theorem dX3_writeLabel_29 : decode cX3_writeLabel 29 = .ok (.iload_n 2, 1) := by decide +kernel
theorem dX3_writeLabel_30 : decode cX3_writeLabel 30 = .ok (.iload 4, 2) := by decide +kernel
theorem dX3_writeLabel_32 : decode cX3_writeLabel 32 = .ok (.invokestatic 54, 3) := by decide +kernel
theorem dX3_writeLabel_35 : decode cX3_writeLabel 35 = .ok (.istore 6, 2) := by decide +kernel
theorem dX3_writeLabel_37 : decode cX3_writeLabel 37 = .ok (.iload 6, 2) := by decide +kernel
theorem dX3_writeLabel_39 : decode cX3_writeLabel 39 = .ok (.iload 4, 2) := by decide +kernel
theorem dX3_writeLabel_41 : decode cX3_writeLabel 41 = .ok (.if_icmp .gt 38, 3) := by decide +kernel
theorem dX3_writeLabel_44 : decode cX3_writeLabel 44 = .ok (.aload_n 3, 1) := by decide +kernel
theorem dX3_writeLabel_45 : decode cX3_writeLabel 45 = .ok (.getfield 108, 3) := by decide +kernel
theorem dX3_writeLabel_48 : decode cX3_writeLabel 48 = .ok (.ifCond .le 9, 3) := by decide +kernel
theorem dX3_writeLabel_51 : decode cX3_writeLabel 51 = .ok (.aload_n 3, 1) := by decide +kernel
theorem dX3_writeLabel_52 : decode cX3_writeLabel 52 = .ok (.bipush 46, 2) := by decide +kernel
theorem dX3_writeLabel_54 : decode cX3_writeLabel 54 = .ok (.invokevirtual 116, 3) := by decide +kernel
theorem dX3_writeLabel_57 : decode cX3_writeLabel 57 = .ok (.aload_n 3, 1) := by decide +kernel
theorem dX3_writeLabel_58 : decode cX3_writeLabel 58 = .ok (.aload 5, 2) := by decide +kernel
theorem dX3_writeLabel_60 : decode cX3_writeLabel 60 = .ok (.iload 6, 2) := by decide +kernel
theorem dX3_writeLabel_62 : decode cX3_writeLabel 62 = .ok (.iaload, 1) := by decide +kernel
theorem dX3_writeLabel_63 : decode cX3_writeLabel 63 = .ok (.aload_n 0, 1) := by decide +kernel
theorem dX3_writeLabel_64 : decode cX3_writeLabel 64 = .ok (.getfield 9, 3) := by decide +kernel
theorem dX3_writeLabel_67 : decode cX3_writeLabel 67 = .ok (.iload 6, 2) := by decide +kernel
theorem dX3_writeLabel_69 : decode cX3_writeLabel 69 = .ok (.iaload, 1) := by decide +kernel
theorem dX3_writeLabel_70 : decode cX3_writeLabel 70 = .ok (.invokevirtual 119, 3) := by decide +kernel
theorem dX3_writeLabel_73 : decode cX3_writeLabel 73 = .ok (.iinc 6 1, 3) := by decide +kernel
theorem dX3_writeLabel_76 : decode cX3_writeLabel 76 = .ok (.goto (-39), 3) := by decide +kernel
theorem dX3_writeLabel_79 : decode cX3_writeLabel 79 = .ok (.return_, 1) := by decide +kernel
theorem dX3_slide_0 : decode cX3_slide 0 = .ok (.aload_n 0, 1) := by decide +kernel
theorem dX3_slide_1 : decode cX3_slide 1 = .ok (.getfield 15, 3) := by decide +kernel
theorem dX3_slide_4 : decode cX3_slide 4 = .ok (.iload_n 1, 1) := by decide +kernel
theorem dX3_slide_5 : decode cX3_slide 5 = .ok (.aload_n 0, 1) := by decide +kernel
theorem dX3_slide_6 : decode cX3_slide 6 = .ok (.getfield 15, 3) := by decide +kernel
theorem dX3_slide_9 : decode cX3_slide 9 = .ok (.iload_n 2, 1) := by decide +kernel
theorem dX3_slide_10 : decode cX3_slide 10 = .ok (.iload_n 3, 1) := by decide +kernel
theorem dX3_slide_11 : decode cX3_slide 11 = .ok (.invokestatic 36, 3) := by decide +kernel
theorem dX3_slide_14 : decode cX3_slide 14 = .ok (.aload_n 0, 1) := by decide +kernel
theorem dX3_slide_15 : decode cX3_slide 15 = .ok (.getfield 18, 3) := by decide +kernel
theorem dX3_slide_18 : decode cX3_slide 18 = .ok (.iload_n 1, 1) := by decide +kernel
theorem dX3_slide_19 : decode cX3_slide 19 = .ok (.aload_n 0, 1) := by decide +kernel
theorem dX3_slide_20 : decode cX3_slide 20 = .ok (.getfield 18, 3) := by decide +kernel
theorem dX3_slide_23 : decode cX3_slide 23 = .ok (.iload_n 2, 1) := by decide +kernel
theorem dX3_slide_24 : decode cX3_slide 24 = .ok (.iload_n 3, 1) := by decide +kernel
theorem dX3_slide_25 : decode cX3_slide 25 = .ok (.invokestatic 36, 3) := by decide +kernel
theorem dX3_slide_28 : decode cX3_slide 28 = .ok (.aload_n 0, 1) := by decide +kernel
theorem dX3_slide_29 : decode cX3_slide 29 = .ok (.getfield 21, 3) := by decide +kernel
theorem dX3_slide_32 : decode cX3_slide 32 = .ok (.iload_n 1, 1) := by decide +kernel
theorem dX3_slide_33 : decode cX3_slide 33 = .ok (.aload_n 0, 1) := by decide +kernel
theorem dX3_slide_34 : decode cX3_slide 34 = .ok (.getfield 21, 3) := by decide +kernel
theorem dX3_slide_37 : decode cX3_slide 37 = .ok (.iload_n 2, 1) := by decide +kernel
theorem dX3_slide_38 : decode cX3_slide 38 = .ok (.iload_n 3, 1) := by decide +kernel
theorem dX3_slide_39 : decode cX3_slide 39 = .ok (.invokestatic 36, 3) := by decide +kernel
theorem dX3_slide_42 : decode cX3_slide 42 = .ok (.return_, 1) := by decide +kernel
theorem dX4_init_0 : decode cX4_init 0 = .ok (.aload_n 0, 1) := by decide +kernel
theorem dX4_init_1 : decode cX4_init 1 = .ok (.invokespecial 3, 3) := by decide +kernel
theorem dX4_init_4 : decode cX4_init 4 = .ok (.aload_n 0, 1) := by decide +kernel
theorem dX4_init_5 : decode cX4_init 5 = .ok (.bipush 23, 2) := by decide +kernel
theorem dX4_init_7 : decode cX4_init 7 = .ok (.newarray .char, 2) := by decide +kernel
theorem dX4_init_9 : decode cX4_init 9 = .ok (.putfield 9, 3) := by decide +kernel
theorem dX4_init_12 : decode cX4_init 12 = .ok (.aload_n 0, 1) := by decide +kernel
theorem dX4_init_13 : decode cX4_init 13 = .ok (.iconst 0, 1) := by decide +kernel
theorem dX4_init_14 : decode cX4_init 14 = .ok (.putfield 15, 3) := by decide +kernel
theorem dX4_init_17 : decode cX4_init 17 = .ok (.return_, 1) := by decide +kernel
theorem dX4_add_0 : decode cX4_add 0 = .ok (.aload_n 0, 1) := by decide +kernel
theorem dX4_add_1 : decode cX4_add 1 = .ok (.getfield 15, 3) := by decide +kernel
theorem dX4_add_4 : decode cX4_add 4 = .ok (.aload_n 0, 1) := by decide +kernel
theorem dX4_add_5 : decode cX4_add 5 = .ok (.getfield 9, 3) := by decide +kernel
theorem dX4_add_8 : decode cX4_add 8 = .ok (.arraylength, 1) := by decide +kernel
theorem dX4_add_9 : decode cX4_add 9 = .ok (.if_icmp .ge 24, 3) := by decide +kernel
theorem dX4_add_12 : decode cX4_add 12 = .ok (.aload_n 0, 1) := by decide +kernel
theorem dX4_add_13 : decode cX4_add 13 = .ok (.getfield 9, 3) := by decide +kernel
theorem dX4_add_16 : decode cX4_add 16 = .ok (.aload_n 0, 1) := by decide +kernel
theorem dX4_add_17 : decode cX4_add 17 = .ok (.getfield 15, 3) := by decide +kernel
theorem dX4_add_20 : decode cX4_add 20 = .ok (.iload_n 1, 1) := by decide +kernel
theorem dX4_add_21 : decode cX4_add 21 = .ok (.i2c, 1) := by decide +kernel
theorem dX4_add_22 : decode cX4_add 22 = .ok (.castore, 1) := by decide +kernel
theorem dX4_add_23 : decode cX4_add 23 = .ok (.aload_n 0, 1) := by decide +kernel
theorem dX4_add_24 : decode cX4_add 24 = .ok (.dup, 1) := by decide +kernel
theorem dX4_add_25 : decode cX4_add 25 = .ok (.getfield 15, 3) := by decide +kernel
theorem dX4_add_28 : decode cX4_add 28 = .ok (.iconst 1, 1) := by decide +kernel
theorem dX4_add_29 : decode cX4_add 29 = .ok (.iadd, 1) := by decide +kernel
theorem dX4_add_30 : decode cX4_add 30 = .ok (.putfield 15, 3) := by decide +kernel
theorem dX4_add_33 : decode cX4_add 33 = .ok (.return_, 1) := by decide +kernel
theorem dX4_addNumerals_0 : decode cX4_addNumerals 0 = .ok (.iload_n 1, 1) := by decide +kernel
theorem dX4_addNumerals_1 : decode cX4_addNumerals 1 = .ok (.ifCond .eq 7, 3) := by decide +kernel
theorem dX4_addNumerals_4 : decode cX4_addNumerals 4 = .ok (.iload_n 2, 1) := by decide +kernel
theorem dX4_addNumerals_5 : decode cX4_addNumerals 5 = .ok (.ifCond .ne 11, 3) := by decide +kernel
theorem dX4_addNumerals_8 : decode cX4_addNumerals 8 = .ok (.aload_n 0, 1) := by decide +kernel
theorem dX4_addNumerals_9 : decode cX4_addNumerals 9 = .ok (.iload_n 1, 1) := by decide +kernel
theorem dX4_addNumerals_10 : decode cX4_addNumerals 10 = .ok (.invokevirtual 19, 3) := by decide +kernel
theorem dX4_addNumerals_13 : decode cX4_addNumerals 13 = .ok (.goto 33, 3) := by decide +kernel
theorem dX4_addNumerals_16 : decode cX4_addNumerals 16 = .ok (.iload_n 2, 1) := by decide +kernel
theorem dX4_addNumerals_17 : decode cX4_addNumerals 17 = .ok (.iconst 2, 1) := by decide +kernel
theorem dX4_addNumerals_18 : decode cX4_addNumerals 18 = .ok (.if_icmp .ne 11, 3) := by decide +kernel
theorem dX4_addNumerals_21 : decode cX4_addNumerals 21 = .ok (.aload_n 0, 1) := by decide +kernel
theorem dX4_addNumerals_22 : decode cX4_addNumerals 22 = .ok (.iload_n 1, 1) := by decide +kernel
theorem dX4_addNumerals_23 : decode cX4_addNumerals 23 = .ok (.invokevirtual 23, 3) := by decide +kernel
theorem dX4_addNumerals_26 : decode cX4_addNumerals 26 = .ok (.goto 20, 3) := by decide +kernel
theorem dX4_addNumerals_29 : decode cX4_addNumerals 29 = .ok (.aload_n 0, 1) := by decide +kernel
theorem dX4_addNumerals_30 : decode cX4_addNumerals 30 = .ok (.iload_n 1, 1) := by decide +kernel
theorem dX4_addNumerals_31 : decode cX4_addNumerals 31 = .ok (.iload_n 2, 1) := by decide +kernel
theorem dX4_addNumerals_32 : decode cX4_addNumerals 32 = .ok (.iconst 1, 1) := by decide +kernel
theorem dX4_addNumerals_33 : decode cX4_addNumerals 33 = .ok (.if_icmp .ne 8, 3) := by decide +kernel
theorem dX4_addNumerals_36 : decode cX4_addNumerals 36 = .ok (.bipush 97, 2) := by decide +kernel
theorem dX4_addNumerals_38 : decode cX4_addNumerals 38 = .ok (.goto 5, 3) := by decide +kernel
theorem dX4_addNumerals_41 : decode cX4_addNumerals 41 = .ok (.bipush 65, 2) := by decide +kernel
theorem dX4_addNumerals_43 : decode cX4_addNumerals 43 = .ok (.invokevirtual 26, 3) := by decide +kernel
theorem dX4_addNumerals_46 : decode cX4_addNumerals 46 = .ok (.return_, 1) := by decide +kernel
theorem dX4_addFigures_0 : decode cX4_addFigures 0 = .ok (.sipush 1000, 3) := by decide +kernel
theorem dX4_addFigures_3 : decode cX4_addFigures 3 = .ok (.istore_n 2, 1) := by decide +kernel
theorem dX4_addFigures_4 : decode cX4_addFigures 4 = .ok (.iload_n 2, 1) := by decide +kernel
theorem dX4_addFigures_5 : decode cX4_addFigures 5 = .ok (.ifCond .le 34, 3) := by decide +kernel
theorem dX4_addFigures_8 : decode cX4_addFigures 8 = .ok (.iload_n 1, 1) := by decide +kernel
theorem dX4_addFigures_9 : decode cX4_addFigures 9 = .ok (.iload_n 2, 1) := by decide +kernel
theorem dX4_addFigures_10 : decode cX4_addFigures 10 = .ok (.if_icmp .ge 8, 3) := by decide +kernel
theorem dX4_addFigures_13 : decode cX4_addFigures 13 = .ok (.iload_n 2, 1) := by decide +kernel
theorem dX4_addFigures_14 : decode cX4_addFigures 14 = .ok (.iconst 1, 1) := by decide +kernel
theorem dX4_addFigures_15 : decode cX4_addFigures 15 = .ok (.if_icmp .ne 16, 3) := by decide +kernel
theorem dX4_addFigures_18 : decode cX4_addFigures 18 = .ok (.aload_n 0, 1) := by decide +kernel
theorem dX4_addFigures_19 : decode cX4_addFigures 19 = .ok (.bipush 48, 2) := by decide +kernel
theorem dX4_addFigures_21 : decode cX4_addFigures 21 = .ok (.iload_n 1, 1) := by decide +kernel
theorem dX4_addFigures_22 : decode cX4_addFigures 22 = .ok (.iload_n 2, 1) := by decide +kernel
theorem dX4_addFigures_23 : decode cX4_addFigures 23 = .ok (.idiv, 1) := by decide +kernel
theorem dX4_addFigures_24 : decode cX4_addFigures 24 = .ok (.bipush 10, 2) := by decide +kernel
theorem dX4_addFigures_26 : decode cX4_addFigures 26 = .ok (.irem, 1) := by decide +kernel
theorem dX4_addFigures_27 : decode cX4_addFigures 27 = .ok (.iadd, 1) := by decide +kernel
theorem dX4_addFigures_28 : decode cX4_addFigures 28 = .ok (.invokevirtual 30, 3) := by decide +kernel
theorem dX4_addFigures_31 : decode cX4_addFigures 31 = .ok (.iload_n 2, 1) := by decide +kernel
theorem dX4_addFigures_32 : decode cX4_addFigures 32 = .ok (.bipush 10, 2) := by decide +kernel
theorem dX4_addFigures_34 : decode cX4_addFigures 34 = .ok (.idiv, 1) := by decide +kernel
theorem dX4_addFigures_35 : decode cX4_addFigures 35 = .ok (.istore_n 2, 1) := by decide +kernel
theorem dX4_addFigures_36 : decode cX4_addFigures 36 = .ok (.goto (-32), 3) := by decide +kernel
theorem dX4_addFigures_39 : decode cX4_addFigures 39 = .ok (.return_, 1) := by decide +kernel
theorem dX4_addRoman_0 : decode cX4_addRoman 0 = .ok (.iload_n 1, 1) := by decide +kernel
theorem dX4_addRoman_1 : decode cX4_addRoman 1 = .ok (.istore_n 2, 1) := by decide +kernel
theorem dX4_addRoman_2 : decode cX4_addRoman 2 = .ok (.iconst 0, 1) := by decide +kernel
theorem dX4_addRoman_3 : decode cX4_addRoman 3 = .ok (.istore_n 3, 1) := by decide +kernel
theorem dX4_addRoman_4 : decode cX4_addRoman 4 = .ok (.iload_n 3, 1) := by decide +kernel
theorem dX4_addRoman_5 : decode cX4_addRoman 5 = .ok (.getstatic 33, 3) := by decide +kernel
theorem dX4_addRoman_8 : decode cX4_addRoman 8 = .ok (.arraylength, 1) := by decide +kernel
theorem dX4_addRoman_9 : decode cX4_addRoman 9 = .ok (.if_icmp .ge 55, 3) := by decide +kernel
theorem dX4_addRoman_12 : decode cX4_addRoman 12 = .ok (.iload_n 2, 1) := by decide +kernel
theorem dX4_addRoman_13 : decode cX4_addRoman 13 = .ok (.getstatic 33, 3) := by decide +kernel
theorem dX4_addRoman_16 : decode cX4_addRoman 16 = .ok (.iload_n 3, 1) := by decide +kernel
theorem dX4_addRoman_17 : decode cX4_addRoman 17 = .ok (.iaload, 1) := by decide +kernel
theorem dX4_addRoman_18 : decode cX4_addRoman 18 = .ok (.if_icmp .lt 40, 3) := by decide +kernel
theorem dX4_addRoman_21 : decode cX4_addRoman 21 = .ok (.aload_n 0, 1) := by decide +kernel
theorem dX4_addRoman_22 : decode cX4_addRoman 22 = .ok (.getstatic 37, 3) := by decide +kernel
theorem dX4_addRoman_25 : decode cX4_addRoman 25 = .ok (.iload_n 3, 1) := by decide +kernel
theorem dX4_addRoman_26 : decode cX4_addRoman 26 = .ok (.caload, 1) := by decide +kernel
theorem dX4_addRoman_27 : decode cX4_addRoman 27 = .ok (.invokevirtual 30, 3) := by decide +kernel
theorem dX4_addRoman_30 : decode cX4_addRoman 30 = .ok (.getstatic 40, 3) := by decide +kernel
theorem dX4_addRoman_33 : decode cX4_addRoman 33 = .ok (.iload_n 3, 1) := by decide +kernel
theorem dX4_addRoman_34 : decode cX4_addRoman 34 = .ok (.caload, 1) := by decide +kernel
theorem dX4_addRoman_35 : decode cX4_addRoman 35 = .ok (.ifCond .eq 12, 3) := by decide +kernel
theorem dX4_addRoman_38 : decode cX4_addRoman 38 = .ok (.aload_n 0, 1) := by decide +kernel
theorem dX4_addRoman_39 : decode cX4_addRoman 39 = .ok (.getstatic 40, 3) := by decide +kernel
theorem dX4_addRoman_42 : decode cX4_addRoman 42 = .ok (.iload_n 3, 1) := by decide +kernel
theorem dX4_addRoman_43 : decode cX4_addRoman 43 = .ok (.caload, 1) := by decide +kernel
theorem dX4_addRoman_44 : decode cX4_addRoman 44 = .ok (.invokevirtual 30, 3) := by decide +kernel
theorem dX4_addRoman_47 : decode cX4_addRoman 47 = .ok (.iload_n 2, 1) := by decide +kernel
theorem dX4_addRoman_48 : decode cX4_addRoman 48 = .ok (.getstatic 33, 3) := by decide +kernel
theorem dX4_addRoman_51 : decode cX4_addRoman 51 = .ok (.iload_n 3, 1) := by decide +kernel
theorem dX4_addRoman_52 : decode cX4_addRoman 52 = .ok (.iaload, 1) := by decide +kernel
theorem dX4_addRoman_53 : decode cX4_addRoman 53 = .ok (.isub, 1) := by decide +kernel
theorem dX4_addRoman_54 : decode cX4_addRoman 54 = .ok (.istore_n 2, 1) := by decide +kernel
theorem dX4_addRoman_55 : decode cX4_addRoman 55 = .ok (.goto (-43), 3) := by decide +kernel
theorem dX4_addRoman_58 : decode cX4_addRoman 58 = .ok (.iinc 3 1, 3) := by decide +kernel
theorem dX4_addRoman_61 : decode cX4_addRoman 61 = .ok (.goto (-57), 3) := by decide +kernel
theorem dX4_addRoman_64 : decode cX4_addRoman 64 = .ok (.return_, 1) := by decide +kernel
theorem dX4_addLetters_0 : decode cX4_addLetters 0 = .ok (.iload_n 1, 1) := by decide +kernel
theorem dX4_addLetters_1 : decode cX4_addLetters 1 = .ok (.bipush 26, 2) := by decide +kernel
theorem dX4_addLetters_3 : decode cX4_addLetters 3 = .ok (.if_icmp .le 17, 3) := by decide +kernel
theorem dX4_addLetters_6 : decode cX4_addLetters 6 = .ok (.aload_n 0, 1) := by decide +kernel
theorem dX4_addLetters_7 : decode cX4_addLetters 7 = .ok (.iload_n 2, 1) := by decide +kernel
theorem dX4_addLetters_8 : decode cX4_addLetters 8 = .ok (.iload_n 1, 1) := by decide +kernel
theorem dX4_addLetters_9 : decode cX4_addLetters 9 = .ok (.iconst 1, 1) := by decide +kernel
theorem dX4_addLetters_10 : decode cX4_addLetters 10 = .ok (.isub, 1) := by decide +kernel
theorem dX4_addLetters_11 : decode cX4_addLetters 11 = .ok (.bipush 26, 2) := by decide +kernel
theorem dX4_addLetters_13 : decode cX4_addLetters 13 = .ok (.idiv, 1) := by decide +kernel
theorem dX4_addLetters_14 : decode cX4_addLetters 14 = .ok (.iadd, 1) := by decide +kernel
theorem dX4_addLetters_15 : decode cX4_addLetters 15 = .ok (.iconst 1, 1) := by decide +kernel
theorem dX4_addLetters_16 : decode cX4_addLetters 16 = .ok (.isub, 1) := by decide +kernel
theorem dX4_addLetters_17 : decode cX4_addLetters 17 = .ok (.invokevirtual 30, 3) := by decide +kernel
theorem dX4_addLetters_20 : decode cX4_addLetters 20 = .ok (.aload_n 0, 1) := by decide +kernel
theorem dX4_addLetters_21 : decode cX4_addLetters 21 = .ok (.iload_n 2, 1) := by decide +kernel
theorem dX4_addLetters_22 : decode cX4_addLetters 22 = .ok (.iload_n 1, 1) := by decide +kernel
theorem dX4_addLetters_23 : decode cX4_addLetters 23 = .ok (.iconst 1, 1) := by decide +kernel
theorem dX4_addLetters_24 : decode cX4_addLetters 24 = .ok (.isub, 1) := by decide +kernel
theorem dX4_addLetters_25 : decode cX4_addLetters 25 = .ok (.bipush 26, 2) := by decide +kernel
theorem dX4_addLetters_27 : decode cX4_addLetters 27 = .ok (.irem, 1) := by decide +kernel
theorem dX4_addLetters_28 : decode cX4_addLetters 28 = .ok (.iadd, 1) := by decide +kernel
theorem dX4_addLetters_29 : decode cX4_addLetters 29 = .ok (.invokevirtual 30, 3) := by decide +kernel
theorem dX4_addLetters_32 : decode cX4_addLetters 32 = .ok (.return_, 1) := by decide +kernel
theorem dX4_areItems_0 : decode cX4_areItems 0 = .ok (.iload_n 3, 1) := by decide +kernel
theorem dX4_areItems_1 : decode cX4_areItems 1 = .ok (.aload_n 0, 1) := by decide +kernel
theorem dX4_areItems_2 : decode cX4_areItems 2 = .ok (.getfield 15, 3) := by decide +kernel
theorem dX4_areItems_5 : decode cX4_areItems 5 = .ok (.if_icmp .eq 5, 3) := by decide +kernel
theorem dX4_areItems_8 : decode cX4_areItems 8 = .ok (.iconst 0, 1) := by decide +kernel
theorem dX4_areItems_9 : decode cX4_areItems 9 = .ok (.ireturn, 1) := by decide +kernel
theorem dX4_areItems_10 : decode cX4_areItems 10 = .ok (.iconst 0, 1) := by decide +kernel
theorem dX4_areItems_11 : decode cX4_areItems 11 = .ok (.istore 4, 2) := by decide +kernel
theorem dX4_areItems_13 : decode cX4_areItems 13 = .ok (.iload 4, 2) := by decide +kernel
theorem dX4_areItems_15 : decode cX4_areItems 15 = .ok (.iload_n 3, 1) := by decide +kernel
theorem dX4_areItems_16 : decode cX4_areItems 16 = .ok (.if_icmp .ge 30, 3) := by decide +kernel
theorem dX4_areItems_19 : decode cX4_areItems 19 = .ok (.aload_n 1, 1) := by decide +kernel
theorem dX4_areItems_20 : decode cX4_areItems 20 = .ok (.getfield 43, 3) := by decide +kernel
theorem dX4_areItems_23 : decode cX4_areItems 23 = .ok (.iload_n 2, 1) := by decide +kernel
theorem dX4_areItems_24 : decode cX4_areItems 24 = .ok (.iload 4, 2) := by decide +kernel
theorem dX4_areItems_26 : decode cX4_areItems 26 = .ok (.iadd, 1) := by decide +kernel
theorem dX4_areItems_27 : decode cX4_areItems 27 = .ok (.iaload, 1) := by decide +kernel
theorem dX4_areItems_28 : decode cX4_areItems 28 = .ok (.aload_n 0, 1) := by decide +kernel
theorem dX4_areItems_29 : decode cX4_areItems 29 = .ok (.getfield 9, 3) := by decide +kernel
theorem dX4_areItems_32 : decode cX4_areItems 32 = .ok (.iload 4, 2) := by decide +kernel
theorem dX4_areItems_34 : decode cX4_areItems 34 = .ok (.caload, 1) := by decide +kernel
theorem dX4_areItems_35 : decode cX4_areItems 35 = .ok (.if_icmp .eq 5, 3) := by decide +kernel
theorem dX4_areItems_38 : decode cX4_areItems 38 = .ok (.iconst 0, 1) := by decide +kernel
theorem dX4_areItems_39 : decode cX4_areItems 39 = .ok (.ireturn, 1) := by decide +kernel
theorem dX4_areItems_40 : decode cX4_areItems 40 = .ok (.iinc 4 1, 3) := by decide +kernel
theorem dX4_areItems_43 : decode cX4_areItems 43 = .ok (.goto (-30), 3) := by decide +kernel
theorem dX4_areItems_46 : decode cX4_areItems 46 = .ok (.iconst 1, 1) := by decide +kernel
theorem dX4_areItems_47 : decode cX4_areItems 47 = .ok (.ireturn, 1) := by decide +kernel
theorem dX4_order_0 : decode cX4_order 0 = .ok (.aload_n 0, 1) := by decide +kernel
theorem dX4_order_1 : decode cX4_order 1 = .ok (.getfield 15, 3) := by decide +kernel
theorem dX4_order_4 : decode cX4_order 4 = .ok (.aload_n 1, 1) := by decide +kernel
theorem dX4_order_5 : decode cX4_order 5 = .ok (.getfield 15, 3) := by decide +kernel
theorem dX4_order_8 : decode cX4_order 8 = .ok (.invokestatic 48, 3) := by decide +kernel
theorem dX4_order_11 : decode cX4_order 11 = .ok (.istore_n 2, 1) := by decide +kernel
theorem dX4_order_12 : decode cX4_order 12 = .ok (.iconst 0, 1) := by decide +kernel
theorem dX4_order_13 : decode cX4_order 13 = .ok (.istore_n 3, 1) := by decide +kernel
theorem dX4_order_14 : decode cX4_order 14 = .ok (.iload_n 3, 1) := by decide +kernel
theorem dX4_order_15 : decode cX4_order 15 = .ok (.iload_n 2, 1) := by decide +kernel
theorem dX4_order_16 : decode cX4_order 16 = .ok (.if_icmp .ge 38, 3) := by decide +kernel
theorem dX4_order_19 : decode cX4_order 19 = .ok (.aload_n 0, 1) := by decide +kernel
theorem dX4_order_20 : decode cX4_order 20 = .ok (.getfield 9, 3) := by decide +kernel
theorem dX4_order_23 : decode cX4_order 23 = .ok (.iload_n 3, 1) := by decide +kernel
theorem dX4_order_24 : decode cX4_order 24 = .ok (.caload, 1) := by decide +kernel
theorem dX4_order_25 : decode cX4_order 25 = .ok (.aload_n 1, 1) := by decide +kernel
theorem dX4_order_26 : decode cX4_order 26 = .ok (.getfield 9, 3) := by decide +kernel
theorem dX4_order_29 : decode cX4_order 29 = .ok (.iload_n 3, 1) := by decide +kernel
theorem dX4_order_30 : decode cX4_order 30 = .ok (.caload, 1) := by decide +kernel
theorem dX4_order_31 : decode cX4_order 31 = .ok (.if_icmp .eq 17, 3) := by decide +kernel
theorem dX4_order_34 : decode cX4_order 34 = .ok (.aload_n 0, 1) := by decide +kernel
theorem dX4_order_35 : decode cX4_order 35 = .ok (.getfield 9, 3) := by decide +kernel
theorem dX4_order_38 : decode cX4_order 38 = .ok (.iload_n 3, 1) := by decide +kernel
theorem dX4_order_39 : decode cX4_order 39 = .ok (.caload, 1) := by decide +kernel
theorem dX4_order_40 : decode cX4_order 40 = .ok (.aload_n 1, 1) := by decide +kernel
theorem dX4_order_41 : decode cX4_order 41 = .ok (.getfield 9, 3) := by decide +kernel
theorem dX4_order_44 : decode cX4_order 44 = .ok (.iload_n 3, 1) := by decide +kernel
theorem dX4_order_45 : decode cX4_order 45 = .ok (.caload, 1) := by decide +kernel
theorem dX4_order_46 : decode cX4_order 46 = .ok (.isub, 1) := by decide +kernel
theorem dX4_order_47 : decode cX4_order 47 = .ok (.ireturn, 1) := by decide +kernel
theorem dX4_order_48 : decode cX4_order 48 = .ok (.iinc 3 1, 3) := by decide +kernel
theorem dX4_order_51 : decode cX4_order 51 = .ok (.goto (-37), 3) := by decide +kernel
theorem dX4_order_54 : decode cX4_order 54 = .ok (.aload_n 0, 1) := by decide +kernel
theorem dX4_order_55 : decode cX4_order 55 = .ok (.getfield 15, 3) := by decide +kernel
theorem dX4_order_58 : decode cX4_order 58 = .ok (.aload_n 1, 1) := by decide +kernel
theorem dX4_order_59 : decode cX4_order 59 = .ok (.getfield 15, 3) := by decide +kernel
theorem dX4_order_62 : decode cX4_order 62 = .ok (.isub, 1) := by decide +kernel
theorem dX4_order_63 : decode cX4_order 63 = .ok (.ireturn, 1) := by decide +kernel
theorem dX5_init_0 : decode cX5_init 0 = .ok (.aload_n 0, 1) := by decide +kernel
theorem dX5_init_1 : decode cX5_init 1 = .ok (.invokespecial 3, 3) := by decide +kernel
theorem dX5_init_4 : decode cX5_init 4 = .ok (.aload_n 0, 1) := by decide +kernel
theorem dX5_init_5 : decode cX5_init 5 = .ok (.sipush 130, 3) := by decide +kernel
theorem dX5_init_8 : decode cX5_init 8 = .ok (.newarray .int, 2) := by decide +kernel
theorem dX5_init_10 : decode cX5_init 10 = .ok (.putfield 9, 3) := by decide +kernel
theorem dX5_init_13 : decode cX5_init 13 = .ok (.aload_n 0, 1) := by decide +kernel
theorem dX5_init_14 : decode cX5_init 14 = .ok (.iconst 0, 1) := by decide +kernel
theorem dX5_init_15 : decode cX5_init 15 = .ok (.putfield 15, 3) := by decide +kernel
theorem dX5_init_18 : decode cX5_init 18 = .ok (.aload_n 0, 1) := by decide +kernel
theorem dX5_init_19 : decode cX5_init 19 = .ok (.iconst 0, 1) := by decide +kernel
theorem dX5_init_20 : decode cX5_init 20 = .ok (.putfield 19, 3) := by decide +kernel
theorem dX5_init_23 : decode cX5_init 23 = .ok (.aload_n 0, 1) := by decide +kernel
theorem dX5_init_24 : decode cX5_init 24 = .ok (.iconst 0, 1) := by decide +kernel
theorem dX5_init_25 : decode cX5_init 25 = .ok (.putfield 22, 3) := by decide +kernel
theorem dX5_init_28 : decode cX5_init 28 = .ok (.aload_n 0, 1) := by decide +kernel
theorem dX5_init_29 : decode cX5_init 29 = .ok (.iconst 0, 1) := by decide +kernel
theorem dX5_init_30 : decode cX5_init 30 = .ok (.putfield 25, 3) := by decide +kernel
theorem dX5_init_33 : decode cX5_init 33 = .ok (.aload_n 0, 1) := by decide +kernel
theorem dX5_init_34 : decode cX5_init 34 = .ok (.iconst 0, 1) := by decide +kernel
theorem dX5_init_35 : decode cX5_init 35 = .ok (.putfield 28, 3) := by decide +kernel
theorem dX5_init_38 : decode cX5_init 38 = .ok (.aload_n 0, 1) := by decide +kernel
theorem dX5_init_39 : decode cX5_init 39 = .ok (.iconst 0, 1) := by decide +kernel
theorem dX5_init_40 : decode cX5_init 40 = .ok (.putfield 31, 3) := by decide +kernel
theorem dX5_init_43 : decode cX5_init 43 = .ok (.return_, 1) := by decide +kernel
theorem dX5_readInto_0 : decode cX5_readInto 0 = .ok (.aload_n 1, 1) := by decide +kernel
theorem dX5_readInto_1 : decode cX5_readInto 1 = .ok (.invokevirtual 34, 3) := by decide +kernel
theorem dX5_readInto_4 : decode cX5_readInto 4 = .ok (.aload_n 0, 1) := by decide +kernel
theorem dX5_readInto_5 : decode cX5_readInto 5 = .ok (.iconst 0, 1) := by decide +kernel
theorem dX5_readInto_6 : decode cX5_readInto 6 = .ok (.putfield 31, 3) := by decide +kernel
theorem dX5_readInto_9 : decode cX5_readInto 9 = .ok (.aload_n 0, 1) := by decide +kernel
theorem dX5_readInto_10 : decode cX5_readInto 10 = .ok (.iconst 0, 1) := by decide +kernel
theorem dX5_readInto_11 : decode cX5_readInto 11 = .ok (.putfield 22, 3) := by decide +kernel
theorem dX5_readInto_14 : decode cX5_readInto 14 = .ok (.aload_n 0, 1) := by decide +kernel
theorem dX5_readInto_15 : decode cX5_readInto 15 = .ok (.invokevirtual 39, 3) := by decide +kernel
theorem dX5_readInto_18 : decode cX5_readInto 18 = .ok (.aload_n 0, 1) := by decide +kernel
theorem dX5_readInto_19 : decode cX5_readInto 19 = .ok (.aload_n 1, 1) := by decide +kernel
theorem dX5_readInto_20 : decode cX5_readInto 20 = .ok (.invokevirtual 42, 3) := by decide +kernel
theorem dX5_readInto_23 : decode cX5_readInto 23 = .ok (.iconst 0, 1) := by decide +kernel
theorem dX5_readInto_24 : decode cX5_readInto 24 = .ok (.istore_n 2, 1) := by decide +kernel
theorem dX5_readInto_25 : decode cX5_readInto 25 = .ok (.iload_n 2, 1) := by decide +kernel
theorem dX5_readInto_26 : decode cX5_readInto 26 = .ok (.bipush 16, 2) := by decide +kernel
theorem dX5_readInto_28 : decode cX5_readInto 28 = .ok (.if_icmp .gt 32, 3) := by decide +kernel
theorem dX5_readInto_31 : decode cX5_readInto 31 = .ok (.aload_n 0, 1) := by decide +kernel
theorem dX5_readInto_32 : decode cX5_readInto 32 = .ok (.getfield 31, 3) := by decide +kernel
theorem dX5_readInto_35 : decode cX5_readInto 35 = .ok (.ifCond .ne 25, 3) := by decide +kernel
theorem dX5_readInto_38 : decode cX5_readInto 38 = .ok (.iload_n 2, 1) := by decide +kernel
theorem dX5_readInto_39 : decode cX5_readInto 39 = .ok (.ifCond .eq 10, 3) := by decide +kernel
theorem dX5_readInto_42 : decode cX5_readInto 42 = .ok (.aload_n 0, 1) := by decide +kernel
theorem dX5_readInto_43 : decode cX5_readInto 43 = .ok (.getfield 25, 3) := by decide +kernel
theorem dX5_readInto_46 : decode cX5_readInto 46 = .ok (.ifCond .eq 14, 3) := by decide +kernel
theorem dX5_readInto_49 : decode cX5_readInto 49 = .ok (.aload_n 0, 1) := by decide +kernel
theorem dX5_readInto_50 : decode cX5_readInto 50 = .ok (.aload_n 1, 1) := by decide +kernel
theorem dX5_readInto_51 : decode cX5_readInto 51 = .ok (.invokevirtual 46, 3) := by decide +kernel
theorem dX5_readInto_54 : decode cX5_readInto 54 = .ok (.iinc 2 1, 3) := by decide +kernel
theorem dX5_readInto_57 : decode cX5_readInto 57 = .ok (.goto (-32), 3) := by decide +kernel
theorem dX5_readInto_60 : decode cX5_readInto 60 = .ok (.aload_n 0, 1) := by decide +kernel
theorem dX5_readInto_61 : decode cX5_readInto 61 = .ok (.getfield 31, 3) := by decide +kernel
theorem dX5_readInto_64 : decode cX5_readInto 64 = .ok (.ireturn, 1) := by decide +kernel
theorem dX5_readLaw_0 : decode cX5_readLaw 0 = .ok (.aload_n 0, 1) := by decide +kernel
theorem dX5_readLaw_1 : decode cX5_readLaw 1 = .ok (.bipush 110, 2) := by decide +kernel
theorem dX5_readLaw_3 : decode cX5_readLaw 3 = .ok (.invokevirtual 49, 3) := by decide +kernel
theorem dX5_readLaw_6 : decode cX5_readLaw 6 = .ok (.iconst 0, 1) := by decide +kernel
theorem dX5_readLaw_7 : decode cX5_readLaw 7 = .ok (.istore_n 2, 1) := by decide +kernel
theorem dX5_readLaw_8 : decode cX5_readLaw 8 = .ok (.iload_n 2, 1) := by decide +kernel
theorem dX5_readLaw_9 : decode cX5_readLaw 9 = .ok (.iconst 3, 1) := by decide +kernel
theorem dX5_readLaw_10 : decode cX5_readLaw 10 = .ok (.if_icmp .ge 36, 3) := by decide +kernel
theorem dX5_readLaw_13 : decode cX5_readLaw 13 = .ok (.aload_n 1, 1) := by decide +kernel
theorem dX5_readLaw_14 : decode cX5_readLaw 14 = .ok (.getfield 53, 3) := by decide +kernel
theorem dX5_readLaw_17 : decode cX5_readLaw 17 = .ok (.iload_n 2, 1) := by decide +kernel
theorem dX5_readLaw_18 : decode cX5_readLaw 18 = .ok (.aload_n 0, 1) := by decide +kernel
theorem dX5_readLaw_19 : decode cX5_readLaw 19 = .ok (.iconst 3, 1) := by decide +kernel
theorem dX5_readLaw_20 : decode cX5_readLaw 20 = .ok (.invokevirtual 56, 3) := by decide +kernel
theorem dX5_readLaw_23 : decode cX5_readLaw 23 = .ok (.iastore, 1) := by decide +kernel
theorem dX5_readLaw_24 : decode cX5_readLaw 24 = .ok (.aload_n 0, 1) := by decide +kernel
theorem dX5_readLaw_25 : decode cX5_readLaw 25 = .ok (.iload_n 2, 1) := by decide +kernel
theorem dX5_readLaw_26 : decode cX5_readLaw 26 = .ok (.iconst 2, 1) := by decide +kernel
theorem dX5_readLaw_27 : decode cX5_readLaw 27 = .ok (.if_icmp .ge 8, 3) := by decide +kernel
theorem dX5_readLaw_30 : decode cX5_readLaw 30 = .ok (.bipush 44, 2) := by decide +kernel
theorem dX5_readLaw_32 : decode cX5_readLaw 32 = .ok (.goto 5, 3) := by decide +kernel
theorem dX5_readLaw_35 : decode cX5_readLaw 35 = .ok (.bipush 59, 2) := by decide +kernel
theorem dX5_readLaw_37 : decode cX5_readLaw 37 = .ok (.invokevirtual 49, 3) := by decide +kernel
theorem dX5_readLaw_40 : decode cX5_readLaw 40 = .ok (.iinc 2 1, 3) := by decide +kernel
theorem dX5_readLaw_43 : decode cX5_readLaw 43 = .ok (.goto (-35), 3) := by decide +kernel
theorem dX5_readLaw_46 : decode cX5_readLaw 46 = .ok (.return_, 1) := by decide +kernel
theorem dX5_readParagraph_0 : decode cX5_readParagraph 0 = .ok (.aload_n 0, 1) := by decide +kernel
theorem dX5_readParagraph_1 : decode cX5_readParagraph 1 = .ok (.aload_n 1, 1) := by decide +kernel
theorem dX5_readParagraph_2 : decode cX5_readParagraph 2 = .ok (.getfield 60, 3) := by decide +kernel
theorem dX5_readParagraph_5 : decode cX5_readParagraph 5 = .ok (.invokevirtual 63, 3) := by decide +kernel
theorem dX5_readParagraph_8 : decode cX5_readParagraph 8 = .ok (.istore_n 2, 1) := by decide +kernel
theorem dX5_readParagraph_9 : decode cX5_readParagraph 9 = .ok (.aload_n 0, 1) := by decide +kernel
theorem dX5_readParagraph_10 : decode cX5_readParagraph 10 = .ok (.iconst 2, 1) := by decide +kernel
theorem dX5_readParagraph_11 : decode cX5_readParagraph 11 = .ok (.invokevirtual 56, 3) := by decide +kernel
theorem dX5_readParagraph_14 : decode cX5_readParagraph 14 = .ok (.istore_n 3, 1) := by decide +kernel
theorem dX5_readParagraph_15 : decode cX5_readParagraph 15 = .ok (.aload_n 0, 1) := by decide +kernel
theorem dX5_readParagraph_16 : decode cX5_readParagraph 16 = .ok (.bipush 44, 2) := by decide +kernel
theorem dX5_readParagraph_18 : decode cX5_readParagraph 18 = .ok (.invokevirtual 49, 3) := by decide +kernel
theorem dX5_readParagraph_21 : decode cX5_readParagraph 21 = .ok (.aload_n 0, 1) := by decide +kernel
theorem dX5_readParagraph_22 : decode cX5_readParagraph 22 = .ok (.bipush 20, 2) := by decide +kernel
theorem dX5_readParagraph_24 : decode cX5_readParagraph 24 = .ok (.invokevirtual 56, 3) := by decide +kernel
theorem dX5_readParagraph_27 : decode cX5_readParagraph 27 = .ok (.istore 4, 2) := by decide +kernel
theorem dX5_readParagraph_29 : decode cX5_readParagraph 29 = .ok (.aload_n 0, 1) := by decide +kernel
theorem dX5_readParagraph_30 : decode cX5_readParagraph 30 = .ok (.bipush 59, 2) := by decide +kernel
theorem dX5_readParagraph_32 : decode cX5_readParagraph 32 = .ok (.invokevirtual 49, 3) := by decide +kernel
theorem dX5_readParagraph_35 : decode cX5_readParagraph 35 = .ok (.aload_n 0, 1) := by decide +kernel
theorem dX5_readParagraph_36 : decode cX5_readParagraph 36 = .ok (.getfield 31, 3) := by decide +kernel
theorem dX5_readParagraph_39 : decode cX5_readParagraph 39 = .ok (.ifCond .ne 15, 3) := by decide +kernel
theorem dX5_readParagraph_42 : decode cX5_readParagraph 42 = .ok (.aload_n 1, 1) := by decide +kernel
theorem dX5_readParagraph_43 : decode cX5_readParagraph 43 = .ok (.aload_n 1, 1) := by decide +kernel
theorem dX5_readParagraph_44 : decode cX5_readParagraph 44 = .ok (.getfield 60, 3) := by decide +kernel
theorem dX5_readParagraph_47 : decode cX5_readParagraph 47 = .ok (.iload_n 2, 1) := by decide +kernel
theorem dX5_readParagraph_48 : decode cX5_readParagraph 48 = .ok (.iload_n 3, 1) := by decide +kernel
theorem dX5_readParagraph_49 : decode cX5_readParagraph 49 = .ok (.iload 4, 2) := by decide +kernel
theorem dX5_readParagraph_51 : decode cX5_readParagraph 51 = .ok (.invokevirtual 66, 3) := by decide +kernel
theorem dX5_readParagraph_54 : decode cX5_readParagraph 54 = .ok (.return_, 1) := by decide +kernel
theorem dX5_pass_0 : decode cX5_pass 0 = .ok (.aload_n 0, 1) := by decide +kernel
theorem dX5_pass_1 : decode cX5_pass 1 = .ok (.getfield 31, 3) := by decide +kernel
theorem dX5_pass_4 : decode cX5_pass 4 = .ok (.ifCond .ne 16, 3) := by decide +kernel
theorem dX5_pass_7 : decode cX5_pass 7 = .ok (.aload_n 0, 1) := by decide +kernel
theorem dX5_pass_8 : decode cX5_pass 8 = .ok (.getfield 25, 3) := by decide +kernel
theorem dX5_pass_11 : decode cX5_pass 11 = .ok (.iload_n 1, 1) := by decide +kernel
theorem dX5_pass_12 : decode cX5_pass 12 = .ok (.if_icmp .eq 8, 3) := by decide +kernel
theorem dX5_pass_15 : decode cX5_pass 15 = .ok (.aload_n 0, 1) := by decide +kernel
theorem dX5_pass_16 : decode cX5_pass 16 = .ok (.iconst 1, 1) := by decide +kernel
theorem dX5_pass_17 : decode cX5_pass 17 = .ok (.putfield 31, 3) := by decide +kernel
theorem dX5_pass_20 : decode cX5_pass 20 = .ok (.aload_n 0, 1) := by decide +kernel
theorem dX5_pass_21 : decode cX5_pass 21 = .ok (.invokevirtual 39, 3) := by decide +kernel
theorem dX5_pass_24 : decode cX5_pass 24 = .ok (.return_, 1) := by decide +kernel
theorem dX5_passNumber_0 : decode cX5_passNumber 0 = .ok (.aload_n 0, 1) := by decide +kernel
theorem dX5_passNumber_1 : decode cX5_passNumber 1 = .ok (.getfield 31, 3) := by decide +kernel
theorem dX5_passNumber_4 : decode cX5_passNumber 4 = .ok (.ifCond .ne 16, 3) := by decide +kernel
theorem dX5_passNumber_7 : decode cX5_passNumber 7 = .ok (.aload_n 0, 1) := by decide +kernel
theorem dX5_passNumber_8 : decode cX5_passNumber 8 = .ok (.getfield 25, 3) := by decide +kernel
theorem dX5_passNumber_11 : decode cX5_passNumber 11 = .ok (.iconst 1, 1) := by decide +kernel
theorem dX5_passNumber_12 : decode cX5_passNumber 12 = .ok (.if_icmp .eq 8, 3) := by decide +kernel
theorem dX5_passNumber_15 : decode cX5_passNumber 15 = .ok (.aload_n 0, 1) := by decide +kernel
theorem dX5_passNumber_16 : decode cX5_passNumber 16 = .ok (.iconst 1, 1) := by decide +kernel
theorem dX5_passNumber_17 : decode cX5_passNumber 17 = .ok (.putfield 31, 3) := by decide +kernel
theorem dX5_passNumber_20 : decode cX5_passNumber 20 = .ok (.aload_n 0, 1) := by decide +kernel
theorem dX5_passNumber_21 : decode cX5_passNumber 21 = .ok (.getfield 31, 3) := by decide +kernel
theorem dX5_passNumber_24 : decode cX5_passNumber 24 = .ok (.ifCond .ne 16, 3) := by decide +kernel
theorem dX5_passNumber_27 : decode cX5_passNumber 27 = .ok (.aload_n 0, 1) := by decide +kernel
theorem dX5_passNumber_28 : decode cX5_passNumber 28 = .ok (.getfield 28, 3) := by decide +kernel
theorem dX5_passNumber_31 : decode cX5_passNumber 31 = .ok (.iload_n 1, 1) := by decide +kernel
theorem dX5_passNumber_32 : decode cX5_passNumber 32 = .ok (.if_icmp .le 8, 3) := by decide +kernel
theorem dX5_passNumber_35 : decode cX5_passNumber 35 = .ok (.aload_n 0, 1) := by decide +kernel
theorem dX5_passNumber_36 : decode cX5_passNumber 36 = .ok (.iconst 2, 1) := by decide +kernel
theorem dX5_passNumber_37 : decode cX5_passNumber 37 = .ok (.putfield 31, 3) := by decide +kernel
theorem dX5_passNumber_40 : decode cX5_passNumber 40 = .ok (.aload_n 0, 1) := by decide +kernel
theorem dX5_passNumber_41 : decode cX5_passNumber 41 = .ok (.getfield 28, 3) := by decide +kernel
theorem dX5_passNumber_44 : decode cX5_passNumber 44 = .ok (.istore_n 2, 1) := by decide +kernel
theorem dX5_passNumber_45 : decode cX5_passNumber 45 = .ok (.aload_n 0, 1) := by decide +kernel
theorem dX5_passNumber_46 : decode cX5_passNumber 46 = .ok (.invokevirtual 39, 3) := by decide +kernel
theorem dX5_passNumber_49 : decode cX5_passNumber 49 = .ok (.iload_n 2, 1) := by decide +kernel
theorem dX5_passNumber_50 : decode cX5_passNumber 50 = .ok (.ireturn, 1) := by decide +kernel
theorem dX5_passSort_0 : decode cX5_passSort 0 = .ok (.iconst 1, 1) := by decide +kernel
theorem dX5_passSort_1 : decode cX5_passSort 1 = .ok (.istore_n 2, 1) := by decide +kernel
theorem dX5_passSort_2 : decode cX5_passSort 2 = .ok (.iload_n 2, 1) := by decide +kernel
theorem dX5_passSort_3 : decode cX5_passSort 3 = .ok (.iconst 5, 1) := by decide +kernel
theorem dX5_passSort_4 : decode cX5_passSort 4 = .ok (.if_icmp .ge 21, 3) := by decide +kernel
theorem dX5_passSort_7 : decode cX5_passSort 7 = .ok (.getstatic 70, 3) := by decide +kernel
theorem dX5_passSort_10 : decode cX5_passSort 10 = .ok (.iload_n 2, 1) := by decide +kernel
theorem dX5_passSort_11 : decode cX5_passSort 11 = .ok (.caload, 1) := by decide +kernel
theorem dX5_passSort_12 : decode cX5_passSort 12 = .ok (.aload_n 0, 1) := by decide +kernel
theorem dX5_passSort_13 : decode cX5_passSort 13 = .ok (.getfield 25, 3) := by decide +kernel
theorem dX5_passSort_16 : decode cX5_passSort 16 = .ok (.if_icmp .eq 9, 3) := by decide +kernel
theorem dX5_passSort_19 : decode cX5_passSort 19 = .ok (.iinc 2 1, 3) := by decide +kernel
theorem dX5_passSort_22 : decode cX5_passSort 22 = .ok (.goto (-20), 3) := by decide +kernel
theorem dX5_passSort_25 : decode cX5_passSort 25 = .ok (.aload_n 0, 1) := by decide +kernel
theorem dX5_passSort_26 : decode cX5_passSort 26 = .ok (.getfield 31, 3) := by decide +kernel
theorem dX5_passSort_29 : decode cX5_passSort 29 = .ok (.ifCond .ne 20, 3) := by decide +kernel
theorem dX5_passSort_32 : decode cX5_passSort 32 = .ok (.getstatic 70, 3) := by decide +kernel
theorem dX5_passSort_35 : decode cX5_passSort 35 = .ok (.iload_n 2, 1) := by decide +kernel
theorem dX5_passSort_36 : decode cX5_passSort 36 = .ok (.caload, 1) := by decide +kernel
theorem dX5_passSort_37 : decode cX5_passSort 37 = .ok (.aload_n 0, 1) := by decide +kernel
theorem dX5_passSort_38 : decode cX5_passSort 38 = .ok (.getfield 25, 3) := by decide +kernel
theorem dX5_passSort_41 : decode cX5_passSort 41 = .ok (.if_icmp .eq 8, 3) := by decide +kernel
theorem dX5_passSort_44 : decode cX5_passSort 44 = .ok (.aload_n 0, 1) := by decide +kernel
theorem dX5_passSort_45 : decode cX5_passSort 45 = .ok (.iconst 1, 1) := by decide +kernel
theorem dX5_passSort_46 : decode cX5_passSort 46 = .ok (.putfield 31, 3) := by decide +kernel
theorem dX5_passSort_49 : decode cX5_passSort 49 = .ok (.aload_n 0, 1) := by decide +kernel
theorem dX5_passSort_50 : decode cX5_passSort 50 = .ok (.getfield 31, 3) := by decide +kernel
theorem dX5_passSort_53 : decode cX5_passSort 53 = .ok (.ifCond .ne 14, 3) := by decide +kernel
theorem dX5_passSort_56 : decode cX5_passSort 56 = .ok (.iload_n 1, 1) := by decide +kernel
theorem dX5_passSort_57 : decode cX5_passSort 57 = .ok (.bipush 16, 2) := by decide +kernel
theorem dX5_passSort_59 : decode cX5_passSort 59 = .ok (.if_icmp .lt 8, 3) := by decide +kernel
theorem dX5_passSort_62 : decode cX5_passSort 62 = .ok (.aload_n 0, 1) := by decide +kernel
theorem dX5_passSort_63 : decode cX5_passSort 63 = .ok (.iconst 3, 1) := by decide +kernel
theorem dX5_passSort_64 : decode cX5_passSort 64 = .ok (.putfield 31, 3) := by decide +kernel
theorem dX5_passSort_67 : decode cX5_passSort 67 = .ok (.aload_n 0, 1) := by decide +kernel
theorem dX5_passSort_68 : decode cX5_passSort 68 = .ok (.invokevirtual 39, 3) := by decide +kernel
theorem dX5_passSort_71 : decode cX5_passSort 71 = .ok (.iload_n 2, 1) := by decide +kernel
theorem dX5_passSort_72 : decode cX5_passSort 72 = .ok (.ireturn, 1) := by decide +kernel
theorem dX5_stepOn_0 : decode cX5_stepOn 0 = .ok (.aload_n 0, 1) := by decide +kernel
theorem dX5_stepOn_1 : decode cX5_stepOn 1 = .ok (.getfield 31, 3) := by decide +kernel
theorem dX5_stepOn_4 : decode cX5_stepOn 4 = .ok (.ifCond .eq 4, 3) := by decide +kernel
theorem dX5_stepOn_7 : decode cX5_stepOn 7 = .ok (.return_, 1) := by decide +kernel
theorem dX5_stepOn_8 : decode cX5_stepOn 8 = .ok (.aload_n 0, 1) := by decide +kernel
theorem dX5_stepOn_9 : decode cX5_stepOn 9 = .ok (.aload_n 0, 1) := by decide +kernel
theorem dX5_stepOn_10 : decode cX5_stepOn 10 = .ok (.getfield 22, 3) := by decide +kernel
theorem dX5_stepOn_13 : decode cX5_stepOn 13 = .ok (.putfield 19, 3) := by decide +kernel
theorem dX5_stepOn_16 : decode cX5_stepOn 16 = .ok (.aload_n 0, 1) := by decide +kernel
theorem dX5_stepOn_17 : decode cX5_stepOn 17 = .ok (.iconst 0, 1) := by decide +kernel
theorem dX5_stepOn_18 : decode cX5_stepOn 18 = .ok (.putfield 28, 3) := by decide +kernel
theorem dX5_stepOn_21 : decode cX5_stepOn 21 = .ok (.aload_n 0, 1) := by decide +kernel
theorem dX5_stepOn_22 : decode cX5_stepOn 22 = .ok (.getfield 19, 3) := by decide +kernel
theorem dX5_stepOn_25 : decode cX5_stepOn 25 = .ok (.aload_n 0, 1) := by decide +kernel
theorem dX5_stepOn_26 : decode cX5_stepOn 26 = .ok (.getfield 15, 3) := by decide +kernel
theorem dX5_stepOn_29 : decode cX5_stepOn 29 = .ok (.if_icmp .lt 9, 3) := by decide +kernel
theorem dX5_stepOn_32 : decode cX5_stepOn 32 = .ok (.aload_n 0, 1) := by decide +kernel
theorem dX5_stepOn_33 : decode cX5_stepOn 33 = .ok (.iconst 0, 1) := by decide +kernel
theorem dX5_stepOn_34 : decode cX5_stepOn 34 = .ok (.putfield 25, 3) := by decide +kernel
theorem dX5_stepOn_37 : decode cX5_stepOn 37 = .ok (.return_, 1) := by decide +kernel
theorem dX5_stepOn_38 : decode cX5_stepOn 38 = .ok (.aload_n 0, 1) := by decide +kernel
theorem dX5_stepOn_39 : decode cX5_stepOn 39 = .ok (.aload_n 0, 1) := by decide +kernel
theorem dX5_stepOn_40 : decode cX5_stepOn 40 = .ok (.getfield 19, 3) := by decide +kernel
theorem dX5_stepOn_43 : decode cX5_stepOn 43 = .ok (.iconst 1, 1) := by decide +kernel
theorem dX5_stepOn_44 : decode cX5_stepOn 44 = .ok (.iadd, 1) := by decide +kernel
theorem dX5_stepOn_45 : decode cX5_stepOn 45 = .ok (.putfield 22, 3) := by decide +kernel
theorem dX5_stepOn_48 : decode cX5_stepOn 48 = .ok (.aload_n 0, 1) := by decide +kernel
theorem dX5_stepOn_49 : decode cX5_stepOn 49 = .ok (.getfield 9, 3) := by decide +kernel
theorem dX5_stepOn_52 : decode cX5_stepOn 52 = .ok (.aload_n 0, 1) := by decide +kernel
theorem dX5_stepOn_53 : decode cX5_stepOn 53 = .ok (.getfield 19, 3) := by decide +kernel
theorem dX5_stepOn_56 : decode cX5_stepOn 56 = .ok (.iaload, 1) := by decide +kernel
theorem dX5_stepOn_57 : decode cX5_stepOn 57 = .ok (.istore_n 1, 1) := by decide +kernel
theorem dX5_stepOn_58 : decode cX5_stepOn 58 = .ok (.iload_n 1, 1) := by decide +kernel
theorem dX5_stepOn_59 : decode cX5_stepOn 59 = .ok (.invokestatic 74, 3) := by decide +kernel
theorem dX5_stepOn_62 : decode cX5_stepOn 62 = .ok (.ifCond .eq 10, 3) := by decide +kernel
theorem dX5_stepOn_65 : decode cX5_stepOn 65 = .ok (.aload_n 0, 1) := by decide +kernel
theorem dX5_stepOn_66 : decode cX5_stepOn 66 = .ok (.invokevirtual 78, 3) := by decide +kernel
theorem dX5_stepOn_69 : decode cX5_stepOn 69 = .ok (.goto 40, 3) := by decide +kernel
theorem dX5_stepOn_72 : decode cX5_stepOn 72 = .ok (.iload_n 1, 1) := by decide +kernel
theorem dX5_stepOn_73 : decode cX5_stepOn 73 = .ok (.bipush 97, 2) := by decide +kernel
theorem dX5_stepOn_75 : decode cX5_stepOn 75 = .ok (.if_icmp .lt 9, 3) := by decide +kernel
theorem dX5_stepOn_78 : decode cX5_stepOn 78 = .ok (.iload_n 1, 1) := by decide +kernel
theorem dX5_stepOn_79 : decode cX5_stepOn 79 = .ok (.bipush 122, 2) := by decide +kernel
theorem dX5_stepOn_81 : decode cX5_stepOn 81 = .ok (.if_icmp .le 15, 3) := by decide +kernel
theorem dX5_stepOn_84 : decode cX5_stepOn 84 = .ok (.iload_n 1, 1) := by decide +kernel
theorem dX5_stepOn_85 : decode cX5_stepOn 85 = .ok (.bipush 44, 2) := by decide +kernel
theorem dX5_stepOn_87 : decode cX5_stepOn 87 = .ok (.if_icmp .eq 9, 3) := by decide +kernel
theorem dX5_stepOn_90 : decode cX5_stepOn 90 = .ok (.iload_n 1, 1) := by decide +kernel
theorem dX5_stepOn_91 : decode cX5_stepOn 91 = .ok (.bipush 59, 2) := by decide +kernel
theorem dX5_stepOn_93 : decode cX5_stepOn 93 = .ok (.if_icmp .ne 11, 3) := by decide +kernel
theorem dX5_stepOn_96 : decode cX5_stepOn 96 = .ok (.aload_n 0, 1) := by decide +kernel
theorem dX5_stepOn_97 : decode cX5_stepOn 97 = .ok (.iload_n 1, 1) := by decide +kernel
theorem dX5_stepOn_98 : decode cX5_stepOn 98 = .ok (.putfield 25, 3) := by decide +kernel
theorem dX5_stepOn_101 : decode cX5_stepOn 101 = .ok (.goto 8, 3) := by decide +kernel
theorem dX5_stepOn_104 : decode cX5_stepOn 104 = .ok (.aload_n 0, 1) := by decide +kernel
theorem dX5_stepOn_105 : decode cX5_stepOn 105 = .ok (.iconst 2, 1) := by decide +kernel
theorem dX5_stepOn_106 : decode cX5_stepOn 106 = .ok (.putfield 25, 3) := by decide +kernel
theorem dX5_stepOn_109 : decode cX5_stepOn 109 = .ok (.return_, 1) := by decide +kernel
theorem dX5_stepOverFigures_0 : decode cX5_stepOverFigures 0 = .ok (.aload_n 0, 1) := by decide +kernel
theorem dX5_stepOverFigures_1 : decode cX5_stepOverFigures 1 = .ok (.aload_n 0, 1) := by decide +kernel
theorem dX5_stepOverFigures_2 : decode cX5_stepOverFigures 2 = .ok (.getfield 19, 3) := by decide +kernel
theorem dX5_stepOverFigures_5 : decode cX5_stepOverFigures 5 = .ok (.putfield 22, 3) := by decide +kernel
theorem dX5_stepOverFigures_8 : decode cX5_stepOverFigures 8 = .ok (.aload_n 0, 1) := by decide +kernel
theorem dX5_stepOverFigures_9 : decode cX5_stepOverFigures 9 = .ok (.getfield 22, 3) := by decide +kernel
theorem dX5_stepOverFigures_12 : decode cX5_stepOverFigures 12 = .ok (.aload_n 0, 1) := by decide +kernel
theorem dX5_stepOverFigures_13 : decode cX5_stepOverFigures 13 = .ok (.getfield 15, 3) := by decide +kernel
theorem dX5_stepOverFigures_16 : decode cX5_stepOverFigures 16 = .ok (.if_icmp .ge 55, 3) := by decide +kernel
theorem dX5_stepOverFigures_19 : decode cX5_stepOverFigures 19 = .ok (.aload_n 0, 1) := by decide +kernel
theorem dX5_stepOverFigures_20 : decode cX5_stepOverFigures 20 = .ok (.getfield 9, 3) := by decide +kernel
theorem dX5_stepOverFigures_23 : decode cX5_stepOverFigures 23 = .ok (.aload_n 0, 1) := by decide +kernel
theorem dX5_stepOverFigures_24 : decode cX5_stepOverFigures 24 = .ok (.getfield 22, 3) := by decide +kernel
theorem dX5_stepOverFigures_27 : decode cX5_stepOverFigures 27 = .ok (.iaload, 1) := by decide +kernel
theorem dX5_stepOverFigures_28 : decode cX5_stepOverFigures 28 = .ok (.invokestatic 74, 3) := by decide +kernel
theorem dX5_stepOverFigures_31 : decode cX5_stepOverFigures 31 = .ok (.ifCond .eq 40, 3) := by decide +kernel
theorem dX5_stepOverFigures_34 : decode cX5_stepOverFigures 34 = .ok (.aload_n 0, 1) := by decide +kernel
theorem dX5_stepOverFigures_35 : decode cX5_stepOverFigures 35 = .ok (.aload_n 0, 1) := by decide +kernel
theorem dX5_stepOverFigures_36 : decode cX5_stepOverFigures 36 = .ok (.getfield 28, 3) := by decide +kernel
theorem dX5_stepOverFigures_39 : decode cX5_stepOverFigures 39 = .ok (.bipush 10, 2) := by decide +kernel
theorem dX5_stepOverFigures_41 : decode cX5_stepOverFigures 41 = .ok (.imul, 1) := by decide +kernel
theorem dX5_stepOverFigures_42 : decode cX5_stepOverFigures 42 = .ok (.aload_n 0, 1) := by decide +kernel
theorem dX5_stepOverFigures_43 : decode cX5_stepOverFigures 43 = .ok (.getfield 9, 3) := by decide +kernel
theorem dX5_stepOverFigures_46 : decode cX5_stepOverFigures 46 = .ok (.aload_n 0, 1) := by decide +kernel
theorem dX5_stepOverFigures_47 : decode cX5_stepOverFigures 47 = .ok (.getfield 22, 3) := by decide +kernel
theorem dX5_stepOverFigures_50 : decode cX5_stepOverFigures 50 = .ok (.iaload, 1) := by decide +kernel
theorem dX5_stepOverFigures_51 : decode cX5_stepOverFigures 51 = .ok (.iadd, 1) := by decide +kernel
theorem dX5_stepOverFigures_52 : decode cX5_stepOverFigures 52 = .ok (.bipush 48, 2) := by decide +kernel
theorem dX5_stepOverFigures_54 : decode cX5_stepOverFigures 54 = .ok (.isub, 1) := by decide +kernel
theorem dX5_stepOverFigures_55 : decode cX5_stepOverFigures 55 = .ok (.putfield 28, 3) := by decide +kernel
theorem dX5_stepOverFigures_58 : decode cX5_stepOverFigures 58 = .ok (.aload_n 0, 1) := by decide +kernel
theorem dX5_stepOverFigures_59 : decode cX5_stepOverFigures 59 = .ok (.dup, 1) := by decide +kernel
theorem dX5_stepOverFigures_60 : decode cX5_stepOverFigures 60 = .ok (.getfield 22, 3) := by decide +kernel
theorem dX5_stepOverFigures_63 : decode cX5_stepOverFigures 63 = .ok (.iconst 1, 1) := by decide +kernel
theorem dX5_stepOverFigures_64 : decode cX5_stepOverFigures 64 = .ok (.iadd, 1) := by decide +kernel
theorem dX5_stepOverFigures_65 : decode cX5_stepOverFigures 65 = .ok (.putfield 22, 3) := by decide +kernel
theorem dX5_stepOverFigures_68 : decode cX5_stepOverFigures 68 = .ok (.goto (-60), 3) := by decide +kernel
theorem dX5_stepOverFigures_71 : decode cX5_stepOverFigures 71 = .ok (.aload_n 0, 1) := by decide +kernel
theorem dX5_stepOverFigures_72 : decode cX5_stepOverFigures 72 = .ok (.aload_n 0, 1) := by decide +kernel
theorem dX5_stepOverFigures_73 : decode cX5_stepOverFigures 73 = .ok (.getfield 22, 3) := by decide +kernel
theorem dX5_stepOverFigures_76 : decode cX5_stepOverFigures 76 = .ok (.aload_n 0, 1) := by decide +kernel
theorem dX5_stepOverFigures_77 : decode cX5_stepOverFigures 77 = .ok (.getfield 19, 3) := by decide +kernel
theorem dX5_stepOverFigures_80 : decode cX5_stepOverFigures 80 = .ok (.isub, 1) := by decide +kernel
theorem dX5_stepOverFigures_81 : decode cX5_stepOverFigures 81 = .ok (.iconst 2, 1) := by decide +kernel
theorem dX5_stepOverFigures_82 : decode cX5_stepOverFigures 82 = .ok (.if_icmp .gt 7, 3) := by decide +kernel
theorem dX5_stepOverFigures_85 : decode cX5_stepOverFigures 85 = .ok (.iconst 1, 1) := by decide +kernel
theorem dX5_stepOverFigures_86 : decode cX5_stepOverFigures 86 = .ok (.goto 4, 3) := by decide +kernel
theorem dX5_stepOverFigures_89 : decode cX5_stepOverFigures 89 = .ok (.iconst 2, 1) := by decide +kernel
theorem dX5_stepOverFigures_90 : decode cX5_stepOverFigures 90 = .ok (.putfield 25, 3) := by decide +kernel
theorem dX5_stepOverFigures_93 : decode cX5_stepOverFigures 93 = .ok (.return_, 1) := by decide +kernel
theorem dX5_isFigure_0 : decode cX5_isFigure 0 = .ok (.iload_n 0, 1) := by decide +kernel
theorem dX5_isFigure_1 : decode cX5_isFigure 1 = .ok (.bipush 48, 2) := by decide +kernel
theorem dX5_isFigure_3 : decode cX5_isFigure 3 = .ok (.if_icmp .lt 13, 3) := by decide +kernel
theorem dX5_isFigure_6 : decode cX5_isFigure 6 = .ok (.iload_n 0, 1) := by decide +kernel
theorem dX5_isFigure_7 : decode cX5_isFigure 7 = .ok (.bipush 57, 2) := by decide +kernel
theorem dX5_isFigure_9 : decode cX5_isFigure 9 = .ok (.if_icmp .gt 7, 3) := by decide +kernel
theorem dX5_isFigure_12 : decode cX5_isFigure 12 = .ok (.iconst 1, 1) := by decide +kernel
theorem dX5_isFigure_13 : decode cX5_isFigure 13 = .ok (.goto 4, 3) := by decide +kernel
theorem dX5_isFigure_16 : decode cX5_isFigure 16 = .ok (.iconst 0, 1) := by decide +kernel
theorem dX5_isFigure_17 : decode cX5_isFigure 17 = .ok (.ireturn, 1) := by decide +kernel
