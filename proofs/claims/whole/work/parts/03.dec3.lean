theorem dX7_init_0 : decode cX7_init 0 = .ok (.aload_n 0, 1) := by decide +kernel
theorem dX7_init_1 : decode cX7_init 1 = .ok (.invokespecial 1, 3) := by decide +kernel
theorem dX7_init_4 : decode cX7_init 4 = .ok (.aload_n 0, 1) := by decide +kernel
theorem dX7_init_5 : decode cX7_init 5 = .ok (.bipush 8, 2) := by decide +kernel
theorem dX7_init_7 : decode cX7_init 7 = .ok (.newarray .int, 2) := by decide +kernel
theorem dX7_init_9 : decode cX7_init 9 = .ok (.dup, 1) := by decide +kernel
theorem dX7_init_10 : decode cX7_init 10 = .ok (.iconst 0, 1) := by decide +kernel
theorem dX7_init_11 : decode cX7_init 11 = .ok (.iconst (-1), 1) := by decide +kernel
theorem dX7_init_12 : decode cX7_init 12 = .ok (.iastore, 1) := by decide +kernel
theorem dX7_init_13 : decode cX7_init 13 = .ok (.dup, 1) := by decide +kernel
theorem dX7_init_14 : decode cX7_init 14 = .ok (.iconst 1, 1) := by decide +kernel
theorem dX7_init_15 : decode cX7_init 15 = .ok (.iconst (-1), 1) := by decide +kernel
theorem dX7_init_16 : decode cX7_init 16 = .ok (.iastore, 1) := by decide +kernel
theorem dX7_init_17 : decode cX7_init 17 = .ok (.dup, 1) := by decide +kernel
theorem dX7_init_18 : decode cX7_init 18 = .ok (.iconst 2, 1) := by decide +kernel
theorem dX7_init_19 : decode cX7_init 19 = .ok (.iconst (-1), 1) := by decide +kernel
theorem dX7_init_20 : decode cX7_init 20 = .ok (.iastore, 1) := by decide +kernel
theorem dX7_init_21 : decode cX7_init 21 = .ok (.dup, 1) := by decide +kernel
theorem dX7_init_22 : decode cX7_init 22 = .ok (.iconst 3, 1) := by decide +kernel
theorem dX7_init_23 : decode cX7_init 23 = .ok (.iconst (-1), 1) := by decide +kernel
theorem dX7_init_24 : decode cX7_init 24 = .ok (.iastore, 1) := by decide +kernel
theorem dX7_init_25 : decode cX7_init 25 = .ok (.dup, 1) := by decide +kernel
theorem dX7_init_26 : decode cX7_init 26 = .ok (.iconst 4, 1) := by decide +kernel
theorem dX7_init_27 : decode cX7_init 27 = .ok (.iconst (-1), 1) := by decide +kernel
theorem dX7_init_28 : decode cX7_init 28 = .ok (.iastore, 1) := by decide +kernel
theorem dX7_init_29 : decode cX7_init 29 = .ok (.dup, 1) := by decide +kernel
theorem dX7_init_30 : decode cX7_init 30 = .ok (.iconst 5, 1) := by decide +kernel
theorem dX7_init_31 : decode cX7_init 31 = .ok (.iconst (-1), 1) := by decide +kernel
theorem dX7_init_32 : decode cX7_init 32 = .ok (.iastore, 1) := by decide +kernel
theorem dX7_init_33 : decode cX7_init 33 = .ok (.dup, 1) := by decide +kernel
theorem dX7_init_34 : decode cX7_init 34 = .ok (.bipush 6, 2) := by decide +kernel
theorem dX7_init_36 : decode cX7_init 36 = .ok (.iconst (-1), 1) := by decide +kernel
theorem dX7_init_37 : decode cX7_init 37 = .ok (.iastore, 1) := by decide +kernel
theorem dX7_init_38 : decode cX7_init 38 = .ok (.dup, 1) := by decide +kernel
theorem dX7_init_39 : decode cX7_init 39 = .ok (.bipush 7, 2) := by decide +kernel
theorem dX7_init_41 : decode cX7_init 41 = .ok (.iconst (-1), 1) := by decide +kernel
theorem dX7_init_42 : decode cX7_init 42 = .ok (.iastore, 1) := by decide +kernel
theorem dX7_init_43 : decode cX7_init 43 = .ok (.putfield 7, 3) := by decide +kernel
theorem dX7_init_46 : decode cX7_init 46 = .ok (.aload_n 0, 1) := by decide +kernel
theorem dX7_init_47 : decode cX7_init 47 = .ok (.bipush 8, 2) := by decide +kernel
theorem dX7_init_49 : decode cX7_init 49 = .ok (.newarray .int, 2) := by decide +kernel
theorem dX7_init_51 : decode cX7_init 51 = .ok (.putfield 13, 3) := by decide +kernel
theorem dX7_init_54 : decode cX7_init 54 = .ok (.aload_n 0, 1) := by decide +kernel
theorem dX7_init_55 : decode cX7_init 55 = .ok (.sipush 320, 3) := by decide +kernel
theorem dX7_init_58 : decode cX7_init 58 = .ok (.newarray .int, 2) := by decide +kernel
theorem dX7_init_60 : decode cX7_init 60 = .ok (.putfield 16, 3) := by decide +kernel
theorem dX7_init_63 : decode cX7_init 63 = .ok (.aload_n 0, 1) := by decide +kernel
theorem dX7_init_64 : decode cX7_init 64 = .ok (.bipush 76, 2) := by decide +kernel
theorem dX7_init_66 : decode cX7_init 66 = .ok (.newarray .int, 2) := by decide +kernel
theorem dX7_init_68 : decode cX7_init 68 = .ok (.putfield 19, 3) := by decide +kernel
theorem dX7_init_71 : decode cX7_init 71 = .ok (.aload_n 0, 1) := by decide +kernel
theorem dX7_init_72 : decode cX7_init 72 = .ok (.bipush 76, 2) := by decide +kernel
theorem dX7_init_74 : decode cX7_init 74 = .ok (.newarray .int, 2) := by decide +kernel
theorem dX7_init_76 : decode cX7_init 76 = .ok (.putfield 22, 3) := by decide +kernel
theorem dX7_init_79 : decode cX7_init 79 = .ok (.aload_n 0, 1) := by decide +kernel
theorem dX7_init_80 : decode cX7_init 80 = .ok (.bipush 76, 2) := by decide +kernel
theorem dX7_init_82 : decode cX7_init 82 = .ok (.newarray .int, 2) := by decide +kernel
theorem dX7_init_84 : decode cX7_init 84 = .ok (.putfield 25, 3) := by decide +kernel
theorem dX7_init_87 : decode cX7_init 87 = .ok (.aload_n 0, 1) := by decide +kernel
theorem dX7_init_88 : decode cX7_init 88 = .ok (.sipush 1824, 3) := by decide +kernel
theorem dX7_init_91 : decode cX7_init 91 = .ok (.newarray .int, 2) := by decide +kernel
theorem dX7_init_93 : decode cX7_init 93 = .ok (.putfield 28, 3) := by decide +kernel
theorem dX7_init_96 : decode cX7_init 96 = .ok (.aload_n 0, 1) := by decide +kernel
theorem dX7_init_97 : decode cX7_init 97 = .ok (.sipush 130, 3) := by decide +kernel
theorem dX7_init_100 : decode cX7_init 100 = .ok (.newarray .int, 2) := by decide +kernel
theorem dX7_init_102 : decode cX7_init 102 = .ok (.putfield 31, 3) := by decide +kernel
theorem dX7_init_105 : decode cX7_init 105 = .ok (.aload_n 0, 1) := by decide +kernel
theorem dX7_init_106 : decode cX7_init 106 = .ok (.bipush 6, 2) := by decide +kernel
theorem dX7_init_108 : decode cX7_init 108 = .ok (.newarray .int, 2) := by decide +kernel
theorem dX7_init_110 : decode cX7_init 110 = .ok (.putfield 34, 3) := by decide +kernel
theorem dX7_init_113 : decode cX7_init 113 = .ok (.aload_n 0, 1) := by decide +kernel
theorem dX7_init_114 : decode cX7_init 114 = .ok (.bipush 6, 2) := by decide +kernel
theorem dX7_init_116 : decode cX7_init 116 = .ok (.newarray .int, 2) := by decide +kernel
theorem dX7_init_118 : decode cX7_init 118 = .ok (.putfield 37, 3) := by decide +kernel
theorem dX7_init_121 : decode cX7_init 121 = .ok (.aload_n 0, 1) := by decide +kernel
theorem dX7_init_122 : decode cX7_init 122 = .ok (.bipush 72, 2) := by decide +kernel
theorem dX7_init_124 : decode cX7_init 124 = .ok (.newarray .int, 2) := by decide +kernel
theorem dX7_init_126 : decode cX7_init 126 = .ok (.putfield 40, 3) := by decide +kernel
theorem dX7_init_129 : decode cX7_init 129 = .ok (.aload_n 0, 1) := by decide +kernel
theorem dX7_init_130 : decode cX7_init 130 = .ok (.bipush 40, 2) := by decide +kernel
theorem dX7_init_132 : decode cX7_init 132 = .ok (.newarray .int, 2) := by decide +kernel
theorem dX7_init_134 : decode cX7_init 134 = .ok (.putfield 43, 3) := by decide +kernel
theorem dX7_init_137 : decode cX7_init 137 = .ok (.aload_n 0, 1) := by decide +kernel
theorem dX7_init_138 : decode cX7_init 138 = .ok (.bipush 40, 2) := by decide +kernel
theorem dX7_init_140 : decode cX7_init 140 = .ok (.newarray .int, 2) := by decide +kernel
theorem dX7_init_142 : decode cX7_init 142 = .ok (.putfield 46, 3) := by decide +kernel
theorem dX7_init_145 : decode cX7_init 145 = .ok (.aload_n 0, 1) := by decide +kernel
theorem dX7_init_146 : decode cX7_init 146 = .ok (.iconst 2, 1) := by decide +kernel
theorem dX7_init_147 : decode cX7_init 147 = .ok (.newarray .boolean, 2) := by decide +kernel
theorem dX7_init_149 : decode cX7_init 149 = .ok (.putfield 49, 3) := by decide +kernel
theorem dX7_init_152 : decode cX7_init 152 = .ok (.aload_n 0, 1) := by decide +kernel
theorem dX7_init_153 : decode cX7_init 153 = .ok (.sipush 152, 3) := by decide +kernel
theorem dX7_init_156 : decode cX7_init 156 = .ok (.newarray .int, 2) := by decide +kernel
theorem dX7_init_158 : decode cX7_init 158 = .ok (.putfield 53, 3) := by decide +kernel
theorem dX7_init_161 : decode cX7_init 161 = .ok (.aload_n 0, 1) := by decide +kernel
theorem dX7_init_162 : decode cX7_init 162 = .ok (.bipush 16, 2) := by decide +kernel
theorem dX7_init_164 : decode cX7_init 164 = .ok (.newarray .int, 2) := by decide +kernel
theorem dX7_init_166 : decode cX7_init 166 = .ok (.putfield 56, 3) := by decide +kernel
theorem dX7_init_169 : decode cX7_init 169 = .ok (.return_, 1) := by decide +kernel
theorem dX7_in_0 : decode cX7_in 0 = .ok (.lload_n 0, 1) := by decide +kernel
theorem dX7_in_1 : decode cX7_in 1 = .ok (.lload_n 2, 1) := by decide +kernel
theorem dX7_in_2 : decode cX7_in 2 = .ok (.lcmp, 1) := by decide +kernel
theorem dX7_in_3 : decode cX7_in 3 = .ok (.ifCond .lt 14, 3) := by decide +kernel
theorem dX7_in_6 : decode cX7_in 6 = .ok (.lload_n 0, 1) := by decide +kernel
theorem dX7_in_7 : decode cX7_in 7 = .ok (.lload 4, 2) := by decide +kernel
theorem dX7_in_9 : decode cX7_in 9 = .ok (.lcmp, 1) := by decide +kernel
theorem dX7_in_10 : decode cX7_in 10 = .ok (.ifCond .gt 7, 3) := by decide +kernel
theorem dX7_in_13 : decode cX7_in 13 = .ok (.iconst 1, 1) := by decide +kernel
theorem dX7_in_14 : decode cX7_in 14 = .ok (.goto 4, 3) := by decide +kernel
theorem dX7_in_17 : decode cX7_in 17 = .ok (.iconst 0, 1) := by decide +kernel
theorem dX7_in_18 : decode cX7_in 18 = .ok (.ireturn, 1) := by decide +kernel
theorem dX7_finding_0 : decode cX7_finding 0 = .ok (.aload_n 0, 1) := by decide +kernel
theorem dX7_finding_1 : decode cX7_finding 1 = .ok (.iload_n 1, 1) := by decide +kernel
theorem dX7_finding_2 : decode cX7_finding 2 = .ok (.putfield 63, 3) := by decide +kernel
theorem dX7_finding_5 : decode cX7_finding 5 = .ok (.ldc 66, 2) := by decide +kernel
theorem dX7_finding_7 : decode cX7_finding 7 = .ok (.iload_n 1, 1) := by decide +kernel
theorem dX7_finding_8 : decode cX7_finding 8 = .ok (.isub, 1) := by decide +kernel
theorem dX7_finding_9 : decode cX7_finding 9 = .ok (.ireturn, 1) := by decide +kernel
theorem dX7_isRow_0 : decode cX7_isRow 0 = .ok (.iload_n 0, 1) := by decide +kernel
theorem dX7_isRow_1 : decode cX7_isRow 1 = .ok (.i2l, 1) := by decide +kernel
theorem dX7_isRow_2 : decode cX7_isRow 2 = .ok (.lconst 0, 1) := by decide +kernel
theorem dX7_isRow_3 : decode cX7_isRow 3 = .ok (.ldc2_w 67, 3) := by decide +kernel
theorem dX7_isRow_6 : decode cX7_isRow 6 = .ok (.invokestatic 69, 3) := by decide +kernel
theorem dX7_isRow_9 : decode cX7_isRow 9 = .ok (.ireturn, 1) := by decide +kernel
theorem dX7_row_0 : decode cX7_row 0 = .ok (.aload_n 0, 1) := by decide +kernel
theorem dX7_row_1 : decode cX7_row 1 = .ok (.iconst 0, 1) := by decide +kernel
theorem dX7_row_2 : decode cX7_row 2 = .ok (.putfield 59, 3) := by decide +kernel
theorem dX7_row_5 : decode cX7_row 5 = .ok (.iload_n 1, 1) := by decide +kernel
theorem dX7_row_6 : decode cX7_row 6 = .ok (.invokestatic 73, 3) := by decide +kernel
theorem dX7_row_9 : decode cX7_row 9 = .ok (.ifCond .eq 21, 3) := by decide +kernel
theorem dX7_row_12 : decode cX7_row 12 = .ok (.iload_n 2, 1) := by decide +kernel
theorem dX7_row_13 : decode cX7_row 13 = .ok (.i2l, 1) := by decide +kernel
theorem dX7_row_14 : decode cX7_row 14 = .ok (.lconst 0, 1) := by decide +kernel
theorem dX7_row_15 : decode cX7_row 15 = .ok (.ldc2_w 77, 3) := by decide +kernel
theorem dX7_row_18 : decode cX7_row 18 = .ok (.invokestatic 69, 3) := by decide +kernel
theorem dX7_row_21 : decode cX7_row 21 = .ok (.ifCond .eq 9, 3) := by decide +kernel
theorem dX7_row_24 : decode cX7_row 24 = .ok (.iload_n 3, 1) := by decide +kernel
theorem dX7_row_25 : decode cX7_row 25 = .ok (.bipush 40, 2) := by decide +kernel
theorem dX7_row_27 : decode cX7_row 27 = .ok (.if_icmp .le 6, 3) := by decide +kernel
theorem dX7_row_30 : decode cX7_row 30 = .ok (.ldc 79, 2) := by decide +kernel
theorem dX7_row_32 : decode cX7_row 32 = .ok (.ireturn, 1) := by decide +kernel
theorem dX7_row_33 : decode cX7_row 33 = .ok (.aload_n 0, 1) := by decide +kernel
theorem dX7_row_34 : decode cX7_row 34 = .ok (.iconst 0, 1) := by decide +kernel
theorem dX7_row_35 : decode cX7_row 35 = .ok (.putfield 63, 3) := by decide +kernel
theorem dX7_row_38 : decode cX7_row 38 = .ok (.iload_n 3, 1) := by decide +kernel
theorem dX7_row_39 : decode cX7_row 39 = .ok (.ifCond .ge 9, 3) := by decide +kernel
theorem dX7_row_42 : decode cX7_row 42 = .ok (.aload_n 0, 1) := by decide +kernel
theorem dX7_row_43 : decode cX7_row 43 = .ok (.iconst 4, 1) := by decide +kernel
theorem dX7_row_44 : decode cX7_row 44 = .ok (.invokevirtual 80, 3) := by decide +kernel
theorem dX7_row_47 : decode cX7_row 47 = .ok (.ireturn, 1) := by decide +kernel
theorem dX7_row_48 : decode cX7_row 48 = .ok (.aload_n 0, 1) := by decide +kernel
theorem dX7_row_49 : decode cX7_row 49 = .ok (.getfield 7, 3) := by decide +kernel
theorem dX7_row_52 : decode cX7_row 52 = .ok (.iload_n 1, 1) := by decide +kernel
theorem dX7_row_53 : decode cX7_row 53 = .ok (.iload_n 2, 1) := by decide +kernel
theorem dX7_row_54 : decode cX7_row 54 = .ok (.iastore, 1) := by decide +kernel
theorem dX7_row_55 : decode cX7_row 55 = .ok (.aload_n 0, 1) := by decide +kernel
theorem dX7_row_56 : decode cX7_row 56 = .ok (.getfield 13, 3) := by decide +kernel
theorem dX7_row_59 : decode cX7_row 59 = .ok (.iload_n 1, 1) := by decide +kernel
theorem dX7_row_60 : decode cX7_row 60 = .ok (.iload_n 3, 1) := by decide +kernel
theorem dX7_row_61 : decode cX7_row 61 = .ok (.iastore, 1) := by decide +kernel
theorem dX7_row_62 : decode cX7_row 62 = .ok (.iconst 0, 1) := by decide +kernel
theorem dX7_row_63 : decode cX7_row 63 = .ok (.istore 4, 2) := by decide +kernel
theorem dX7_row_65 : decode cX7_row 65 = .ok (.iload 4, 2) := by decide +kernel
theorem dX7_row_67 : decode cX7_row 67 = .ok (.bipush 40, 2) := by decide +kernel
theorem dX7_row_69 : decode cX7_row 69 = .ok (.if_icmp .ge 22, 3) := by decide +kernel
theorem dX7_row_72 : decode cX7_row 72 = .ok (.aload_n 0, 1) := by decide +kernel
theorem dX7_row_73 : decode cX7_row 73 = .ok (.getfield 16, 3) := by decide +kernel
theorem dX7_row_76 : decode cX7_row 76 = .ok (.bipush 40, 2) := by decide +kernel
theorem dX7_row_78 : decode cX7_row 78 = .ok (.iload_n 1, 1) := by decide +kernel
theorem dX7_row_79 : decode cX7_row 79 = .ok (.imul, 1) := by decide +kernel
theorem dX7_row_80 : decode cX7_row 80 = .ok (.iload 4, 2) := by decide +kernel
theorem dX7_row_82 : decode cX7_row 82 = .ok (.iadd, 1) := by decide +kernel
theorem dX7_row_83 : decode cX7_row 83 = .ok (.iconst 0, 1) := by decide +kernel
theorem dX7_row_84 : decode cX7_row 84 = .ok (.iastore, 1) := by decide +kernel
theorem dX7_row_85 : decode cX7_row 85 = .ok (.iinc 4 1, 3) := by decide +kernel
theorem dX7_row_88 : decode cX7_row 88 = .ok (.goto (-23), 3) := by decide +kernel
theorem dX7_row_91 : decode cX7_row 91 = .ok (.iload_n 3, 1) := by decide +kernel
theorem dX7_row_92 : decode cX7_row 92 = .ok (.ireturn, 1) := by decide +kernel
theorem dX7_set_0 : decode cX7_set 0 = .ok (.aload_n 0, 1) := by decide +kernel
theorem dX7_set_1 : decode cX7_set 1 = .ok (.iconst 0, 1) := by decide +kernel
theorem dX7_set_2 : decode cX7_set 2 = .ok (.putfield 59, 3) := by decide +kernel
theorem dX7_set_5 : decode cX7_set 5 = .ok (.iload_n 1, 1) := by decide +kernel
theorem dX7_set_6 : decode cX7_set 6 = .ok (.invokestatic 73, 3) := by decide +kernel
theorem dX7_set_9 : decode cX7_set 9 = .ok (.ifCond .ne 6, 3) := by decide +kernel
theorem dX7_set_12 : decode cX7_set 12 = .ok (.ldc 79, 2) := by decide +kernel
theorem dX7_set_14 : decode cX7_set 14 = .ok (.ireturn, 1) := by decide +kernel
theorem dX7_set_15 : decode cX7_set 15 = .ok (.aload_n 0, 1) := by decide +kernel
theorem dX7_set_16 : decode cX7_set 16 = .ok (.iconst 0, 1) := by decide +kernel
theorem dX7_set_17 : decode cX7_set 17 = .ok (.putfield 63, 3) := by decide +kernel
theorem dX7_set_20 : decode cX7_set 20 = .ok (.aload_n 0, 1) := by decide +kernel
theorem dX7_set_21 : decode cX7_set 21 = .ok (.getfield 7, 3) := by decide +kernel
theorem dX7_set_24 : decode cX7_set 24 = .ok (.iload_n 1, 1) := by decide +kernel
theorem dX7_set_25 : decode cX7_set 25 = .ok (.iaload, 1) := by decide +kernel
theorem dX7_set_26 : decode cX7_set 26 = .ok (.ifCond .ge 9, 3) := by decide +kernel
theorem dX7_set_29 : decode cX7_set 29 = .ok (.aload_n 0, 1) := by decide +kernel
theorem dX7_set_30 : decode cX7_set 30 = .ok (.iconst 1, 1) := by decide +kernel
theorem dX7_set_31 : decode cX7_set 31 = .ok (.invokevirtual 80, 3) := by decide +kernel
theorem dX7_set_34 : decode cX7_set 34 = .ok (.ireturn, 1) := by decide +kernel
theorem dX7_set_35 : decode cX7_set 35 = .ok (.iload_n 2, 1) := by decide +kernel
theorem dX7_set_36 : decode cX7_set 36 = .ok (.i2l, 1) := by decide +kernel
theorem dX7_set_37 : decode cX7_set 37 = .ok (.lconst 0, 1) := by decide +kernel
theorem dX7_set_38 : decode cX7_set 38 = .ok (.aload_n 0, 1) := by decide +kernel
theorem dX7_set_39 : decode cX7_set 39 = .ok (.getfield 13, 3) := by decide +kernel
theorem dX7_set_42 : decode cX7_set 42 = .ok (.iload_n 1, 1) := by decide +kernel
theorem dX7_set_43 : decode cX7_set 43 = .ok (.iaload, 1) := by decide +kernel
theorem dX7_set_44 : decode cX7_set 44 = .ok (.iconst 1, 1) := by decide +kernel
theorem dX7_set_45 : decode cX7_set 45 = .ok (.isub, 1) := by decide +kernel
theorem dX7_set_46 : decode cX7_set 46 = .ok (.i2l, 1) := by decide +kernel
theorem dX7_set_47 : decode cX7_set 47 = .ok (.invokestatic 69, 3) := by decide +kernel
theorem dX7_set_50 : decode cX7_set 50 = .ok (.ifCond .ne 9, 3) := by decide +kernel
theorem dX7_set_53 : decode cX7_set 53 = .ok (.aload_n 0, 1) := by decide +kernel
theorem dX7_set_54 : decode cX7_set 54 = .ok (.iconst 2, 1) := by decide +kernel
theorem dX7_set_55 : decode cX7_set 55 = .ok (.invokevirtual 80, 3) := by decide +kernel
theorem dX7_set_58 : decode cX7_set 58 = .ok (.ireturn, 1) := by decide +kernel
theorem dX7_set_59 : decode cX7_set 59 = .ok (.aload_n 0, 1) := by decide +kernel
theorem dX7_set_60 : decode cX7_set 60 = .ok (.getfield 16, 3) := by decide +kernel
theorem dX7_set_63 : decode cX7_set 63 = .ok (.bipush 40, 2) := by decide +kernel
theorem dX7_set_65 : decode cX7_set 65 = .ok (.iload_n 1, 1) := by decide +kernel
theorem dX7_set_66 : decode cX7_set 66 = .ok (.imul, 1) := by decide +kernel
theorem dX7_set_67 : decode cX7_set 67 = .ok (.iload_n 2, 1) := by decide +kernel
theorem dX7_set_68 : decode cX7_set 68 = .ok (.iadd, 1) := by decide +kernel
theorem dX7_set_69 : decode cX7_set 69 = .ok (.aload_n 0, 1) := by decide +kernel
theorem dX7_set_70 : decode cX7_set 70 = .ok (.getfield 7, 3) := by decide +kernel
theorem dX7_set_73 : decode cX7_set 73 = .ok (.iload_n 1, 1) := by decide +kernel
theorem dX7_set_74 : decode cX7_set 74 = .ok (.iaload, 1) := by decide +kernel
theorem dX7_set_75 : decode cX7_set 75 = .ok (.ifCond .ne 8, 3) := by decide +kernel
theorem dX7_set_78 : decode cX7_set 78 = .ok (.iload_n 3, 1) := by decide +kernel
theorem dX7_set_79 : decode cX7_set 79 = .ok (.i2b, 1) := by decide +kernel
theorem dX7_set_80 : decode cX7_set 80 = .ok (.goto 19, 3) := by decide +kernel
theorem dX7_set_83 : decode cX7_set 83 = .ok (.aload_n 0, 1) := by decide +kernel
theorem dX7_set_84 : decode cX7_set 84 = .ok (.getfield 7, 3) := by decide +kernel
theorem dX7_set_87 : decode cX7_set 87 = .ok (.iload_n 1, 1) := by decide +kernel
theorem dX7_set_88 : decode cX7_set 88 = .ok (.iaload, 1) := by decide +kernel
theorem dX7_set_89 : decode cX7_set 89 = .ok (.iconst 1, 1) := by decide +kernel
theorem dX7_set_90 : decode cX7_set 90 = .ok (.if_icmp .ne 8, 3) := by decide +kernel
theorem dX7_set_93 : decode cX7_set 93 = .ok (.iload_n 3, 1) := by decide +kernel
theorem dX7_set_94 : decode cX7_set 94 = .ok (.i2s, 1) := by decide +kernel
theorem dX7_set_95 : decode cX7_set 95 = .ok (.goto 4, 3) := by decide +kernel
theorem dX7_set_98 : decode cX7_set 98 = .ok (.iload_n 3, 1) := by decide +kernel
theorem dX7_set_99 : decode cX7_set 99 = .ok (.iastore, 1) := by decide +kernel
theorem dX7_set_100 : decode cX7_set 100 = .ok (.aload_n 0, 1) := by decide +kernel
theorem dX7_set_101 : decode cX7_set 101 = .ok (.getfield 16, 3) := by decide +kernel
theorem dX7_set_104 : decode cX7_set 104 = .ok (.bipush 40, 2) := by decide +kernel
theorem dX7_set_106 : decode cX7_set 106 = .ok (.iload_n 1, 1) := by decide +kernel
theorem dX7_set_107 : decode cX7_set 107 = .ok (.imul, 1) := by decide +kernel
theorem dX7_set_108 : decode cX7_set 108 = .ok (.iload_n 2, 1) := by decide +kernel
theorem dX7_set_109 : decode cX7_set 109 = .ok (.iadd, 1) := by decide +kernel
theorem dX7_set_110 : decode cX7_set 110 = .ok (.iaload, 1) := by decide +kernel
theorem dX7_set_111 : decode cX7_set 111 = .ok (.ireturn, 1) := by decide +kernel
theorem dX7_copy_0 : decode cX7_copy 0 = .ok (.aload_n 0, 1) := by decide +kernel
theorem dX7_copy_1 : decode cX7_copy 1 = .ok (.iconst 0, 1) := by decide +kernel
theorem dX7_copy_2 : decode cX7_copy 2 = .ok (.putfield 59, 3) := by decide +kernel
theorem dX7_copy_5 : decode cX7_copy 5 = .ok (.iload_n 1, 1) := by decide +kernel
theorem dX7_copy_6 : decode cX7_copy 6 = .ok (.invokestatic 73, 3) := by decide +kernel
theorem dX7_copy_9 : decode cX7_copy 9 = .ok (.ifCond .eq 10, 3) := by decide +kernel
theorem dX7_copy_12 : decode cX7_copy 12 = .ok (.iload_n 3, 1) := by decide +kernel
theorem dX7_copy_13 : decode cX7_copy 13 = .ok (.invokestatic 73, 3) := by decide +kernel
theorem dX7_copy_16 : decode cX7_copy 16 = .ok (.ifCond .ne 6, 3) := by decide +kernel
theorem dX7_copy_19 : decode cX7_copy 19 = .ok (.ldc 79, 2) := by decide +kernel
theorem dX7_copy_21 : decode cX7_copy 21 = .ok (.ireturn, 1) := by decide +kernel
theorem dX7_copy_22 : decode cX7_copy 22 = .ok (.aload_n 0, 1) := by decide +kernel
theorem dX7_copy_23 : decode cX7_copy 23 = .ok (.iconst 0, 1) := by decide +kernel
theorem dX7_copy_24 : decode cX7_copy 24 = .ok (.putfield 63, 3) := by decide +kernel
theorem dX7_copy_27 : decode cX7_copy 27 = .ok (.aload_n 0, 1) := by decide +kernel
theorem dX7_copy_28 : decode cX7_copy 28 = .ok (.getfield 7, 3) := by decide +kernel
theorem dX7_copy_31 : decode cX7_copy 31 = .ok (.iload_n 1, 1) := by decide +kernel
theorem dX7_copy_32 : decode cX7_copy 32 = .ok (.iaload, 1) := by decide +kernel
theorem dX7_copy_33 : decode cX7_copy 33 = .ok (.ifCond .lt 12, 3) := by decide +kernel
theorem dX7_copy_36 : decode cX7_copy 36 = .ok (.aload_n 0, 1) := by decide +kernel
theorem dX7_copy_37 : decode cX7_copy 37 = .ok (.getfield 7, 3) := by decide +kernel
theorem dX7_copy_40 : decode cX7_copy 40 = .ok (.iload_n 3, 1) := by decide +kernel
theorem dX7_copy_41 : decode cX7_copy 41 = .ok (.iaload, 1) := by decide +kernel
theorem dX7_copy_42 : decode cX7_copy 42 = .ok (.ifCond .ge 9, 3) := by decide +kernel
theorem dX7_copy_45 : decode cX7_copy 45 = .ok (.aload_n 0, 1) := by decide +kernel
theorem dX7_copy_46 : decode cX7_copy 46 = .ok (.iconst 1, 1) := by decide +kernel
theorem dX7_copy_47 : decode cX7_copy 47 = .ok (.invokevirtual 80, 3) := by decide +kernel
theorem dX7_copy_50 : decode cX7_copy 50 = .ok (.ireturn, 1) := by decide +kernel
theorem dX7_copy_51 : decode cX7_copy 51 = .ok (.aload_n 0, 1) := by decide +kernel
theorem dX7_copy_52 : decode cX7_copy 52 = .ok (.getfield 7, 3) := by decide +kernel
theorem dX7_copy_55 : decode cX7_copy 55 = .ok (.iload_n 1, 1) := by decide +kernel
theorem dX7_copy_56 : decode cX7_copy 56 = .ok (.iaload, 1) := by decide +kernel
theorem dX7_copy_57 : decode cX7_copy 57 = .ok (.aload_n 0, 1) := by decide +kernel
theorem dX7_copy_58 : decode cX7_copy 58 = .ok (.getfield 7, 3) := by decide +kernel
theorem dX7_copy_61 : decode cX7_copy 61 = .ok (.iload_n 3, 1) := by decide +kernel
theorem dX7_copy_62 : decode cX7_copy 62 = .ok (.iaload, 1) := by decide +kernel
theorem dX7_copy_63 : decode cX7_copy 63 = .ok (.if_icmp .eq 9, 3) := by decide +kernel
theorem dX7_copy_66 : decode cX7_copy 66 = .ok (.aload_n 0, 1) := by decide +kernel
theorem dX7_copy_67 : decode cX7_copy 67 = .ok (.iconst 5, 1) := by decide +kernel
theorem dX7_copy_68 : decode cX7_copy 68 = .ok (.invokevirtual 80, 3) := by decide +kernel
theorem dX7_copy_71 : decode cX7_copy 71 = .ok (.ireturn, 1) := by decide +kernel
theorem dX7_copy_72 : decode cX7_copy 72 = .ok (.iload_n 2, 1) := by decide +kernel
theorem dX7_copy_73 : decode cX7_copy 73 = .ok (.ifCond .lt 48, 3) := by decide +kernel
theorem dX7_copy_76 : decode cX7_copy 76 = .ok (.iload 4, 2) := by decide +kernel
theorem dX7_copy_78 : decode cX7_copy 78 = .ok (.ifCond .lt 43, 3) := by decide +kernel
theorem dX7_copy_81 : decode cX7_copy 81 = .ok (.iload 5, 2) := by decide +kernel
theorem dX7_copy_83 : decode cX7_copy 83 = .ok (.ifCond .lt 38, 3) := by decide +kernel
theorem dX7_copy_86 : decode cX7_copy 86 = .ok (.iload_n 2, 1) := by decide +kernel
theorem dX7_copy_87 : decode cX7_copy 87 = .ok (.i2l, 1) := by decide +kernel
theorem dX7_copy_88 : decode cX7_copy 88 = .ok (.iload 5, 2) := by decide +kernel
theorem dX7_copy_90 : decode cX7_copy 90 = .ok (.i2l, 1) := by decide +kernel
theorem dX7_copy_91 : decode cX7_copy 91 = .ok (.ladd, 1) := by decide +kernel
theorem dX7_copy_92 : decode cX7_copy 92 = .ok (.aload_n 0, 1) := by decide +kernel
theorem dX7_copy_93 : decode cX7_copy 93 = .ok (.getfield 13, 3) := by decide +kernel
theorem dX7_copy_96 : decode cX7_copy 96 = .ok (.iload_n 1, 1) := by decide +kernel
theorem dX7_copy_97 : decode cX7_copy 97 = .ok (.iaload, 1) := by decide +kernel
theorem dX7_copy_98 : decode cX7_copy 98 = .ok (.i2l, 1) := by decide +kernel
theorem dX7_copy_99 : decode cX7_copy 99 = .ok (.lcmp, 1) := by decide +kernel
theorem dX7_copy_100 : decode cX7_copy 100 = .ok (.ifCond .gt 21, 3) := by decide +kernel
theorem dX7_copy_103 : decode cX7_copy 103 = .ok (.iload 4, 2) := by decide +kernel
theorem dX7_copy_105 : decode cX7_copy 105 = .ok (.i2l, 1) := by decide +kernel
theorem dX7_copy_106 : decode cX7_copy 106 = .ok (.iload 5, 2) := by decide +kernel
theorem dX7_copy_108 : decode cX7_copy 108 = .ok (.i2l, 1) := by decide +kernel
theorem dX7_copy_109 : decode cX7_copy 109 = .ok (.ladd, 1) := by decide +kernel
theorem dX7_copy_110 : decode cX7_copy 110 = .ok (.aload_n 0, 1) := by decide +kernel
theorem dX7_copy_111 : decode cX7_copy 111 = .ok (.getfield 13, 3) := by decide +kernel
theorem dX7_copy_114 : decode cX7_copy 114 = .ok (.iload_n 3, 1) := by decide +kernel
theorem dX7_copy_115 : decode cX7_copy 115 = .ok (.iaload, 1) := by decide +kernel
theorem dX7_copy_116 : decode cX7_copy 116 = .ok (.i2l, 1) := by decide +kernel
theorem dX7_copy_117 : decode cX7_copy 117 = .ok (.lcmp, 1) := by decide +kernel
theorem dX7_copy_118 : decode cX7_copy 118 = .ok (.ifCond .le 9, 3) := by decide +kernel
theorem dX7_copy_121 : decode cX7_copy 121 = .ok (.aload_n 0, 1) := by decide +kernel
theorem dX7_copy_122 : decode cX7_copy 122 = .ok (.iconst 2, 1) := by decide +kernel
theorem dX7_copy_123 : decode cX7_copy 123 = .ok (.invokevirtual 80, 3) := by decide +kernel
theorem dX7_copy_126 : decode cX7_copy 126 = .ok (.ireturn, 1) := by decide +kernel
theorem dX7_copy_127 : decode cX7_copy 127 = .ok (.iload_n 2, 1) := by decide +kernel
theorem dX7_copy_128 : decode cX7_copy 128 = .ok (.iload 4, 2) := by decide +kernel
theorem dX7_copy_130 : decode cX7_copy 130 = .ok (.if_icmp .lt 7, 3) := by decide +kernel
theorem dX7_copy_133 : decode cX7_copy 133 = .ok (.iconst 1, 1) := by decide +kernel
theorem dX7_copy_134 : decode cX7_copy 134 = .ok (.goto 4, 3) := by decide +kernel
theorem dX7_copy_137 : decode cX7_copy 137 = .ok (.iconst 0, 1) := by decide +kernel
theorem dX7_copy_138 : decode cX7_copy 138 = .ok (.istore 6, 2) := by decide +kernel
theorem dX7_copy_140 : decode cX7_copy 140 = .ok (.iconst 0, 1) := by decide +kernel
theorem dX7_copy_141 : decode cX7_copy 141 = .ok (.istore 7, 2) := by decide +kernel
theorem dX7_copy_143 : decode cX7_copy 143 = .ok (.iload 7, 2) := by decide +kernel
theorem dX7_copy_145 : decode cX7_copy 145 = .ok (.iload 5, 2) := by decide +kernel
theorem dX7_copy_147 : decode cX7_copy 147 = .ok (.if_icmp .ge 57, 3) := by decide +kernel
theorem dX7_copy_150 : decode cX7_copy 150 = .ok (.iload 6, 2) := by decide +kernel
theorem dX7_copy_152 : decode cX7_copy 152 = .ok (.ifCond .eq 8, 3) := by decide +kernel
theorem dX7_copy_155 : decode cX7_copy 155 = .ok (.iload 7, 2) := by decide +kernel
theorem dX7_copy_157 : decode cX7_copy 157 = .ok (.goto 10, 3) := by decide +kernel
theorem dX7_copy_160 : decode cX7_copy 160 = .ok (.iload 5, 2) := by decide +kernel
theorem dX7_copy_162 : decode cX7_copy 162 = .ok (.iconst 1, 1) := by decide +kernel
theorem dX7_copy_163 : decode cX7_copy 163 = .ok (.isub, 1) := by decide +kernel
theorem dX7_copy_164 : decode cX7_copy 164 = .ok (.iload 7, 2) := by decide +kernel
theorem dX7_copy_166 : decode cX7_copy 166 = .ok (.isub, 1) := by decide +kernel
theorem dX7_copy_167 : decode cX7_copy 167 = .ok (.istore 8, 2) := by decide +kernel
theorem dX7_copy_169 : decode cX7_copy 169 = .ok (.aload_n 0, 1) := by decide +kernel
theorem dX7_copy_170 : decode cX7_copy 170 = .ok (.getfield 16, 3) := by decide +kernel
theorem dX7_copy_173 : decode cX7_copy 173 = .ok (.bipush 40, 2) := by decide +kernel
theorem dX7_copy_175 : decode cX7_copy 175 = .ok (.iload_n 3, 1) := by decide +kernel
theorem dX7_copy_176 : decode cX7_copy 176 = .ok (.imul, 1) := by decide +kernel
theorem dX7_copy_177 : decode cX7_copy 177 = .ok (.iload 4, 2) := by decide +kernel
theorem dX7_copy_179 : decode cX7_copy 179 = .ok (.iadd, 1) := by decide +kernel
theorem dX7_copy_180 : decode cX7_copy 180 = .ok (.iload 8, 2) := by decide +kernel
theorem dX7_copy_182 : decode cX7_copy 182 = .ok (.iadd, 1) := by decide +kernel
theorem dX7_copy_183 : decode cX7_copy 183 = .ok (.aload_n 0, 1) := by decide +kernel
theorem dX7_copy_184 : decode cX7_copy 184 = .ok (.getfield 16, 3) := by decide +kernel
theorem dX7_copy_187 : decode cX7_copy 187 = .ok (.bipush 40, 2) := by decide +kernel
theorem dX7_copy_189 : decode cX7_copy 189 = .ok (.iload_n 1, 1) := by decide +kernel
theorem dX7_copy_190 : decode cX7_copy 190 = .ok (.imul, 1) := by decide +kernel
theorem dX7_copy_191 : decode cX7_copy 191 = .ok (.iload_n 2, 1) := by decide +kernel
theorem dX7_copy_192 : decode cX7_copy 192 = .ok (.iadd, 1) := by decide +kernel
theorem dX7_copy_193 : decode cX7_copy 193 = .ok (.iload 8, 2) := by decide +kernel
theorem dX7_copy_195 : decode cX7_copy 195 = .ok (.iadd, 1) := by decide +kernel
theorem dX7_copy_196 : decode cX7_copy 196 = .ok (.iaload, 1) := by decide +kernel
theorem dX7_copy_197 : decode cX7_copy 197 = .ok (.iastore, 1) := by decide +kernel
theorem dX7_copy_198 : decode cX7_copy 198 = .ok (.iinc 7 1, 3) := by decide +kernel
theorem dX7_copy_201 : decode cX7_copy 201 = .ok (.goto (-58), 3) := by decide +kernel
theorem dX7_copy_204 : decode cX7_copy 204 = .ok (.iload 5, 2) := by decide +kernel
theorem dX7_copy_206 : decode cX7_copy 206 = .ok (.ireturn, 1) := by decide +kernel
theorem dX7_drop_0 : decode cX7_drop 0 = .ok (.aload_n 0, 1) := by decide +kernel
theorem dX7_drop_1 : decode cX7_drop 1 = .ok (.iconst 0, 1) := by decide +kernel
theorem dX7_drop_2 : decode cX7_drop 2 = .ok (.putfield 59, 3) := by decide +kernel
theorem dX7_drop_5 : decode cX7_drop 5 = .ok (.iload_n 1, 1) := by decide +kernel
theorem dX7_drop_6 : decode cX7_drop 6 = .ok (.invokestatic 73, 3) := by decide +kernel
theorem dX7_drop_9 : decode cX7_drop 9 = .ok (.ifCond .ne 6, 3) := by decide +kernel
theorem dX7_drop_12 : decode cX7_drop 12 = .ok (.ldc 79, 2) := by decide +kernel
theorem dX7_drop_14 : decode cX7_drop 14 = .ok (.ireturn, 1) := by decide +kernel
theorem dX7_drop_15 : decode cX7_drop 15 = .ok (.aload_n 0, 1) := by decide +kernel
theorem dX7_drop_16 : decode cX7_drop 16 = .ok (.iconst 0, 1) := by decide +kernel
theorem dX7_drop_17 : decode cX7_drop 17 = .ok (.putfield 63, 3) := by decide +kernel
theorem dX7_drop_20 : decode cX7_drop 20 = .ok (.aload_n 0, 1) := by decide +kernel
theorem dX7_drop_21 : decode cX7_drop 21 = .ok (.getfield 7, 3) := by decide +kernel
theorem dX7_drop_24 : decode cX7_drop 24 = .ok (.iload_n 1, 1) := by decide +kernel
theorem dX7_drop_25 : decode cX7_drop 25 = .ok (.iaload, 1) := by decide +kernel
theorem dX7_drop_26 : decode cX7_drop 26 = .ok (.ifCond .ge 9, 3) := by decide +kernel
theorem dX7_drop_29 : decode cX7_drop 29 = .ok (.aload_n 0, 1) := by decide +kernel
theorem dX7_drop_30 : decode cX7_drop 30 = .ok (.iconst 1, 1) := by decide +kernel
theorem dX7_drop_31 : decode cX7_drop 31 = .ok (.invokevirtual 80, 3) := by decide +kernel
theorem dX7_drop_34 : decode cX7_drop 34 = .ok (.ireturn, 1) := by decide +kernel
theorem dX7_drop_35 : decode cX7_drop 35 = .ok (.aload_n 0, 1) := by decide +kernel
theorem dX7_drop_36 : decode cX7_drop 36 = .ok (.getfield 7, 3) := by decide +kernel
theorem dX7_drop_39 : decode cX7_drop 39 = .ok (.iload_n 1, 1) := by decide +kernel
theorem dX7_drop_40 : decode cX7_drop 40 = .ok (.iconst (-1), 1) := by decide +kernel
theorem dX7_drop_41 : decode cX7_drop 41 = .ok (.iastore, 1) := by decide +kernel
theorem dX7_drop_42 : decode cX7_drop 42 = .ok (.aload_n 0, 1) := by decide +kernel
theorem dX7_drop_43 : decode cX7_drop 43 = .ok (.getfield 13, 3) := by decide +kernel
theorem dX7_drop_46 : decode cX7_drop 46 = .ok (.iload_n 1, 1) := by decide +kernel
theorem dX7_drop_47 : decode cX7_drop 47 = .ok (.iaload, 1) := by decide +kernel
theorem dX7_drop_48 : decode cX7_drop 48 = .ok (.ireturn, 1) := by decide +kernel
theorem dX7_feed_0 : decode cX7_feed 0 = .ok (.aload_n 0, 1) := by decide +kernel
theorem dX7_feed_1 : decode cX7_feed 1 = .ok (.iconst 0, 1) := by decide +kernel
theorem dX7_feed_2 : decode cX7_feed 2 = .ok (.putfield 59, 3) := by decide +kernel
theorem dX7_feed_5 : decode cX7_feed 5 = .ok (.iload_n 1, 1) := by decide +kernel
theorem dX7_feed_6 : decode cX7_feed 6 = .ok (.i2l, 1) := by decide +kernel
theorem dX7_feed_7 : decode cX7_feed 7 = .ok (.lconst 0, 1) := by decide +kernel
theorem dX7_feed_8 : decode cX7_feed 8 = .ok (.ldc2_w 84, 3) := by decide +kernel
theorem dX7_feed_11 : decode cX7_feed 11 = .ok (.invokestatic 69, 3) := by decide +kernel
theorem dX7_feed_14 : decode cX7_feed 14 = .ok (.ifCond .ne 6, 3) := by decide +kernel
theorem dX7_feed_17 : decode cX7_feed 17 = .ok (.ldc 79, 2) := by decide +kernel
theorem dX7_feed_19 : decode cX7_feed 19 = .ok (.ireturn, 1) := by decide +kernel
theorem dX7_feed_20 : decode cX7_feed 20 = .ok (.aload_n 0, 1) := by decide +kernel
theorem dX7_feed_21 : decode cX7_feed 21 = .ok (.getfield 86, 3) := by decide +kernel
theorem dX7_feed_24 : decode cX7_feed 24 = .ok (.sipush 130, 3) := by decide +kernel
theorem dX7_feed_27 : decode cX7_feed 27 = .ok (.if_icmp .ne 6, 3) := by decide +kernel
theorem dX7_feed_30 : decode cX7_feed 30 = .ok (.ldc 89, 2) := by decide +kernel
theorem dX7_feed_32 : decode cX7_feed 32 = .ok (.ireturn, 1) := by decide +kernel
theorem dX7_feed_33 : decode cX7_feed 33 = .ok (.aload_n 0, 1) := by decide +kernel
theorem dX7_feed_34 : decode cX7_feed 34 = .ok (.getfield 31, 3) := by decide +kernel
theorem dX7_feed_37 : decode cX7_feed 37 = .ok (.aload_n 0, 1) := by decide +kernel
theorem dX7_feed_38 : decode cX7_feed 38 = .ok (.getfield 86, 3) := by decide +kernel
theorem dX7_feed_41 : decode cX7_feed 41 = .ok (.iload_n 1, 1) := by decide +kernel
theorem dX7_feed_42 : decode cX7_feed 42 = .ok (.iastore, 1) := by decide +kernel
theorem dX7_feed_43 : decode cX7_feed 43 = .ok (.aload_n 0, 1) := by decide +kernel
theorem dX7_feed_44 : decode cX7_feed 44 = .ok (.dup, 1) := by decide +kernel
theorem dX7_feed_45 : decode cX7_feed 45 = .ok (.getfield 86, 3) := by decide +kernel
theorem dX7_feed_48 : decode cX7_feed 48 = .ok (.iconst 1, 1) := by decide +kernel
theorem dX7_feed_49 : decode cX7_feed 49 = .ok (.iadd, 1) := by decide +kernel
theorem dX7_feed_50 : decode cX7_feed 50 = .ok (.putfield 86, 3) := by decide +kernel
theorem dX7_feed_53 : decode cX7_feed 53 = .ok (.aload_n 0, 1) := by decide +kernel
theorem dX7_feed_54 : decode cX7_feed 54 = .ok (.getfield 86, 3) := by decide +kernel
theorem dX7_feed_57 : decode cX7_feed 57 = .ok (.ireturn, 1) := by decide +kernel
theorem dX7_bad_0 : decode cX7_bad 0 = .ok (.aload_n 0, 1) := by decide +kernel
theorem dX7_bad_1 : decode cX7_bad 1 = .ok (.getfield 90, 3) := by decide +kernel
theorem dX7_bad_4 : decode cX7_bad 4 = .ok (.ifCond .ne 16, 3) := by decide +kernel
theorem dX7_bad_7 : decode cX7_bad 7 = .ok (.aload_n 0, 1) := by decide +kernel
theorem dX7_bad_8 : decode cX7_bad 8 = .ok (.iload_n 1, 1) := by decide +kernel
theorem dX7_bad_9 : decode cX7_bad 9 = .ok (.putfield 90, 3) := by decide +kernel
theorem dX7_bad_12 : decode cX7_bad 12 = .ok (.aload_n 0, 1) := by decide +kernel
theorem dX7_bad_13 : decode cX7_bad 13 = .ok (.aload_n 0, 1) := by decide +kernel
theorem dX7_bad_14 : decode cX7_bad 14 = .ok (.getfield 93, 3) := by decide +kernel
theorem dX7_bad_17 : decode cX7_bad 17 = .ok (.putfield 96, 3) := by decide +kernel
theorem dX7_bad_20 : decode cX7_bad 20 = .ok (.return_, 1) := by decide +kernel
theorem dX7_nextToken_0 : decode cX7_nextToken 0 = .ok (.aload_n 0, 1) := by decide +kernel
theorem dX7_nextToken_1 : decode cX7_nextToken 1 = .ok (.aload_n 0, 1) := by decide +kernel
theorem dX7_nextToken_2 : decode cX7_nextToken 2 = .ok (.getfield 99, 3) := by decide +kernel
theorem dX7_nextToken_5 : decode cX7_nextToken 5 = .ok (.putfield 93, 3) := by decide +kernel
theorem dX7_nextToken_8 : decode cX7_nextToken 8 = .ok (.aload_n 0, 1) := by decide +kernel
theorem dX7_nextToken_9 : decode cX7_nextToken 9 = .ok (.aload_n 0, 1) := by decide +kernel
theorem dX7_nextToken_10 : decode cX7_nextToken 10 = .ok (.getfield 99, 3) := by decide +kernel
theorem dX7_nextToken_13 : decode cX7_nextToken 13 = .ok (.aload_n 0, 1) := by decide +kernel
theorem dX7_nextToken_14 : decode cX7_nextToken 14 = .ok (.getfield 86, 3) := by decide +kernel
theorem dX7_nextToken_17 : decode cX7_nextToken 17 = .ok (.if_icmp .ge 15, 3) := by decide +kernel
theorem dX7_nextToken_20 : decode cX7_nextToken 20 = .ok (.aload_n 0, 1) := by decide +kernel
theorem dX7_nextToken_21 : decode cX7_nextToken 21 = .ok (.getfield 31, 3) := by decide +kernel
theorem dX7_nextToken_24 : decode cX7_nextToken 24 = .ok (.aload_n 0, 1) := by decide +kernel
theorem dX7_nextToken_25 : decode cX7_nextToken 25 = .ok (.getfield 99, 3) := by decide +kernel
theorem dX7_nextToken_28 : decode cX7_nextToken 28 = .ok (.iaload, 1) := by decide +kernel
theorem dX7_nextToken_29 : decode cX7_nextToken 29 = .ok (.goto 5, 3) := by decide +kernel
theorem dX7_nextToken_32 : decode cX7_nextToken 32 = .ok (.ldc 102, 2) := by decide +kernel
theorem dX7_nextToken_34 : decode cX7_nextToken 34 = .ok (.putfield 103, 3) := by decide +kernel
theorem dX7_nextToken_37 : decode cX7_nextToken 37 = .ok (.aload_n 0, 1) := by decide +kernel
theorem dX7_nextToken_38 : decode cX7_nextToken 38 = .ok (.aload_n 0, 1) := by decide +kernel
theorem dX7_nextToken_39 : decode cX7_nextToken 39 = .ok (.getfield 99, 3) := by decide +kernel
theorem dX7_nextToken_42 : decode cX7_nextToken 42 = .ok (.aload_n 0, 1) := by decide +kernel
theorem dX7_nextToken_43 : decode cX7_nextToken 43 = .ok (.getfield 86, 3) := by decide +kernel
theorem dX7_nextToken_46 : decode cX7_nextToken 46 = .ok (.if_icmp .ne 7, 3) := by decide +kernel
theorem dX7_nextToken_49 : decode cX7_nextToken 49 = .ok (.iconst 1, 1) := by decide +kernel
theorem dX7_nextToken_50 : decode cX7_nextToken 50 = .ok (.goto 68, 3) := by decide +kernel
theorem dX7_nextToken_53 : decode cX7_nextToken 53 = .ok (.aload_n 0, 1) := by decide +kernel
theorem dX7_nextToken_54 : decode cX7_nextToken 54 = .ok (.getfield 103, 3) := by decide +kernel
theorem dX7_nextToken_57 : decode cX7_nextToken 57 = .ok (.i2l, 1) := by decide +kernel
theorem dX7_nextToken_58 : decode cX7_nextToken 58 = .ok (.ldc2_w 106, 3) := by decide +kernel
theorem dX7_nextToken_61 : decode cX7_nextToken 61 = .ok (.ldc2_w 108, 3) := by decide +kernel
theorem dX7_nextToken_64 : decode cX7_nextToken 64 = .ok (.invokestatic 69, 3) := by decide +kernel
theorem dX7_nextToken_67 : decode cX7_nextToken 67 = .ok (.ifCond .eq 7, 3) := by decide +kernel
theorem dX7_nextToken_70 : decode cX7_nextToken 70 = .ok (.iconst 2, 1) := by decide +kernel
theorem dX7_nextToken_71 : decode cX7_nextToken 71 = .ok (.goto 47, 3) := by decide +kernel
theorem dX7_nextToken_74 : decode cX7_nextToken 74 = .ok (.aload_n 0, 1) := by decide +kernel
theorem dX7_nextToken_75 : decode cX7_nextToken 75 = .ok (.getfield 103, 3) := by decide +kernel
theorem dX7_nextToken_78 : decode cX7_nextToken 78 = .ok (.i2l, 1) := by decide +kernel
theorem dX7_nextToken_79 : decode cX7_nextToken 79 = .ok (.ldc2_w 110, 3) := by decide +kernel
theorem dX7_nextToken_82 : decode cX7_nextToken 82 = .ok (.ldc2_w 112, 3) := by decide +kernel
theorem dX7_nextToken_85 : decode cX7_nextToken 85 = .ok (.invokestatic 69, 3) := by decide +kernel
theorem dX7_nextToken_88 : decode cX7_nextToken 88 = .ok (.ifCond .eq 7, 3) := by decide +kernel
theorem dX7_nextToken_91 : decode cX7_nextToken 91 = .ok (.iconst 3, 1) := by decide +kernel
theorem dX7_nextToken_92 : decode cX7_nextToken 92 = .ok (.goto 26, 3) := by decide +kernel
theorem dX7_nextToken_95 : decode cX7_nextToken 95 = .ok (.aload_n 0, 1) := by decide +kernel
theorem dX7_nextToken_96 : decode cX7_nextToken 96 = .ok (.getfield 103, 3) := by decide +kernel
theorem dX7_nextToken_99 : decode cX7_nextToken 99 = .ok (.bipush 44, 2) := by decide +kernel
theorem dX7_nextToken_101 : decode cX7_nextToken 101 = .ok (.if_icmp .eq 12, 3) := by decide +kernel
theorem dX7_nextToken_104 : decode cX7_nextToken 104 = .ok (.aload_n 0, 1) := by decide +kernel
theorem dX7_nextToken_105 : decode cX7_nextToken 105 = .ok (.getfield 103, 3) := by decide +kernel
theorem dX7_nextToken_108 : decode cX7_nextToken 108 = .ok (.bipush 59, 2) := by decide +kernel
theorem dX7_nextToken_110 : decode cX7_nextToken 110 = .ok (.if_icmp .ne 7, 3) := by decide +kernel
theorem dX7_nextToken_113 : decode cX7_nextToken 113 = .ok (.iconst 4, 1) := by decide +kernel
theorem dX7_nextToken_114 : decode cX7_nextToken 114 = .ok (.goto 4, 3) := by decide +kernel
theorem dX7_nextToken_117 : decode cX7_nextToken 117 = .ok (.iconst 0, 1) := by decide +kernel
theorem dX7_nextToken_118 : decode cX7_nextToken 118 = .ok (.putfield 114, 3) := by decide +kernel
theorem dX7_nextToken_121 : decode cX7_nextToken 121 = .ok (.aload_n 0, 1) := by decide +kernel
theorem dX7_nextToken_122 : decode cX7_nextToken 122 = .ok (.dup, 1) := by decide +kernel
theorem dX7_nextToken_123 : decode cX7_nextToken 123 = .ok (.getfield 99, 3) := by decide +kernel
theorem dX7_nextToken_126 : decode cX7_nextToken 126 = .ok (.aload_n 0, 1) := by decide +kernel
theorem dX7_nextToken_127 : decode cX7_nextToken 127 = .ok (.getfield 99, 3) := by decide +kernel
theorem dX7_nextToken_130 : decode cX7_nextToken 130 = .ok (.aload_n 0, 1) := by decide +kernel
theorem dX7_nextToken_131 : decode cX7_nextToken 131 = .ok (.getfield 86, 3) := by decide +kernel
theorem dX7_nextToken_134 : decode cX7_nextToken 134 = .ok (.if_icmp .ge 7, 3) := by decide +kernel
theorem dX7_nextToken_137 : decode cX7_nextToken 137 = .ok (.iconst 1, 1) := by decide +kernel
theorem dX7_nextToken_138 : decode cX7_nextToken 138 = .ok (.goto 4, 3) := by decide +kernel
theorem dX7_nextToken_141 : decode cX7_nextToken 141 = .ok (.iconst 0, 1) := by decide +kernel
theorem dX7_nextToken_142 : decode cX7_nextToken 142 = .ok (.iadd, 1) := by decide +kernel
theorem dX7_nextToken_143 : decode cX7_nextToken 143 = .ok (.putfield 99, 3) := by decide +kernel
theorem dX7_nextToken_146 : decode cX7_nextToken 146 = .ok (.aload_n 0, 1) := by decide +kernel
theorem dX7_nextToken_147 : decode cX7_nextToken 147 = .ok (.getfield 114, 3) := by decide +kernel
theorem dX7_nextToken_150 : decode cX7_nextToken 150 = .ok (.iconst 3, 1) := by decide +kernel
theorem dX7_nextToken_151 : decode cX7_nextToken 151 = .ok (.if_icmp .ne 126, 3) := by decide +kernel
theorem dX7_nextToken_154 : decode cX7_nextToken 154 = .ok (.aload_n 0, 1) := by decide +kernel
theorem dX7_nextToken_155 : decode cX7_nextToken 155 = .ok (.dup, 1) := by decide +kernel
theorem dX7_nextToken_156 : decode cX7_nextToken 156 = .ok (.getfield 103, 3) := by decide +kernel
theorem dX7_nextToken_159 : decode cX7_nextToken 159 = .ok (.bipush 48, 2) := by decide +kernel
theorem dX7_nextToken_161 : decode cX7_nextToken 161 = .ok (.isub, 1) := by decide +kernel
theorem dX7_nextToken_162 : decode cX7_nextToken 162 = .ok (.putfield 103, 3) := by decide +kernel
theorem dX7_nextToken_165 : decode cX7_nextToken 165 = .ok (.aload_n 0, 1) := by decide +kernel
theorem dX7_nextToken_166 : decode cX7_nextToken 166 = .ok (.getfield 99, 3) := by decide +kernel
theorem dX7_nextToken_169 : decode cX7_nextToken 169 = .ok (.aload_n 0, 1) := by decide +kernel
theorem dX7_nextToken_170 : decode cX7_nextToken 170 = .ok (.getfield 86, 3) := by decide +kernel
theorem dX7_nextToken_173 : decode cX7_nextToken 173 = .ok (.if_icmp .ge 82, 3) := by decide +kernel
theorem dX7_nextToken_176 : decode cX7_nextToken 176 = .ok (.aload_n 0, 1) := by decide +kernel
theorem dX7_nextToken_177 : decode cX7_nextToken 177 = .ok (.getfield 31, 3) := by decide +kernel
theorem dX7_nextToken_180 : decode cX7_nextToken 180 = .ok (.aload_n 0, 1) := by decide +kernel
theorem dX7_nextToken_181 : decode cX7_nextToken 181 = .ok (.getfield 99, 3) := by decide +kernel
theorem dX7_nextToken_184 : decode cX7_nextToken 184 = .ok (.iaload, 1) := by decide +kernel
theorem dX7_nextToken_185 : decode cX7_nextToken 185 = .ok (.i2l, 1) := by decide +kernel
theorem dX7_nextToken_186 : decode cX7_nextToken 186 = .ok (.ldc2_w 110, 3) := by decide +kernel
theorem dX7_nextToken_189 : decode cX7_nextToken 189 = .ok (.ldc2_w 112, 3) := by decide +kernel
theorem dX7_nextToken_192 : decode cX7_nextToken 192 = .ok (.invokestatic 69, 3) := by decide +kernel
theorem dX7_nextToken_195 : decode cX7_nextToken 195 = .ok (.ifCond .eq 60, 3) := by decide +kernel
theorem dX7_nextToken_198 : decode cX7_nextToken 198 = .ok (.aload_n 0, 1) := by decide +kernel
theorem dX7_nextToken_199 : decode cX7_nextToken 199 = .ok (.aload_n 0, 1) := by decide +kernel
theorem dX7_nextToken_200 : decode cX7_nextToken 200 = .ok (.getfield 99, 3) := by decide +kernel
theorem dX7_nextToken_203 : decode cX7_nextToken 203 = .ok (.aload_n 0, 1) := by decide +kernel
theorem dX7_nextToken_204 : decode cX7_nextToken 204 = .ok (.getfield 93, 3) := by decide +kernel
theorem dX7_nextToken_207 : decode cX7_nextToken 207 = .ok (.isub, 1) := by decide +kernel
theorem dX7_nextToken_208 : decode cX7_nextToken 208 = .ok (.iconst 2, 1) := by decide +kernel
theorem dX7_nextToken_209 : decode cX7_nextToken 209 = .ok (.if_icmp .ge 26, 3) := by decide +kernel
theorem dX7_nextToken_212 : decode cX7_nextToken 212 = .ok (.bipush 10, 2) := by decide +kernel
theorem dX7_nextToken_214 : decode cX7_nextToken 214 = .ok (.aload_n 0, 1) := by decide +kernel
theorem dX7_nextToken_215 : decode cX7_nextToken 215 = .ok (.getfield 103, 3) := by decide +kernel
theorem dX7_nextToken_218 : decode cX7_nextToken 218 = .ok (.imul, 1) := by decide +kernel
theorem dX7_nextToken_219 : decode cX7_nextToken 219 = .ok (.aload_n 0, 1) := by decide +kernel
theorem dX7_nextToken_220 : decode cX7_nextToken 220 = .ok (.getfield 31, 3) := by decide +kernel
theorem dX7_nextToken_223 : decode cX7_nextToken 223 = .ok (.aload_n 0, 1) := by decide +kernel
theorem dX7_nextToken_224 : decode cX7_nextToken 224 = .ok (.getfield 99, 3) := by decide +kernel
theorem dX7_nextToken_227 : decode cX7_nextToken 227 = .ok (.iaload, 1) := by decide +kernel
theorem dX7_nextToken_228 : decode cX7_nextToken 228 = .ok (.iadd, 1) := by decide +kernel
theorem dX7_nextToken_229 : decode cX7_nextToken 229 = .ok (.bipush 48, 2) := by decide +kernel
theorem dX7_nextToken_231 : decode cX7_nextToken 231 = .ok (.isub, 1) := by decide +kernel
theorem dX7_nextToken_232 : decode cX7_nextToken 232 = .ok (.goto 7, 3) := by decide +kernel
theorem dX7_nextToken_235 : decode cX7_nextToken 235 = .ok (.aload_n 0, 1) := by decide +kernel
theorem dX7_nextToken_236 : decode cX7_nextToken 236 = .ok (.getfield 103, 3) := by decide +kernel
theorem dX7_nextToken_239 : decode cX7_nextToken 239 = .ok (.putfield 103, 3) := by decide +kernel
theorem dX7_nextToken_242 : decode cX7_nextToken 242 = .ok (.aload_n 0, 1) := by decide +kernel
theorem dX7_nextToken_243 : decode cX7_nextToken 243 = .ok (.dup, 1) := by decide +kernel
theorem dX7_nextToken_244 : decode cX7_nextToken 244 = .ok (.getfield 99, 3) := by decide +kernel
theorem dX7_nextToken_247 : decode cX7_nextToken 247 = .ok (.iconst 1, 1) := by decide +kernel
theorem dX7_nextToken_248 : decode cX7_nextToken 248 = .ok (.iadd, 1) := by decide +kernel
theorem dX7_nextToken_249 : decode cX7_nextToken 249 = .ok (.putfield 99, 3) := by decide +kernel
theorem dX7_nextToken_252 : decode cX7_nextToken 252 = .ok (.goto (-87), 3) := by decide +kernel
theorem dX7_nextToken_255 : decode cX7_nextToken 255 = .ok (.aload_n 0, 1) := by decide +kernel
theorem dX7_nextToken_256 : decode cX7_nextToken 256 = .ok (.aload_n 0, 1) := by decide +kernel
theorem dX7_nextToken_257 : decode cX7_nextToken 257 = .ok (.getfield 99, 3) := by decide +kernel
theorem dX7_nextToken_260 : decode cX7_nextToken 260 = .ok (.aload_n 0, 1) := by decide +kernel
theorem dX7_nextToken_261 : decode cX7_nextToken 261 = .ok (.getfield 93, 3) := by decide +kernel
theorem dX7_nextToken_264 : decode cX7_nextToken 264 = .ok (.isub, 1) := by decide +kernel
theorem dX7_nextToken_265 : decode cX7_nextToken 265 = .ok (.iconst 2, 1) := by decide +kernel
theorem dX7_nextToken_266 : decode cX7_nextToken 266 = .ok (.if_icmp .le 7, 3) := by decide +kernel
theorem dX7_nextToken_269 : decode cX7_nextToken 269 = .ok (.iconst 0, 1) := by decide +kernel
theorem dX7_nextToken_270 : decode cX7_nextToken 270 = .ok (.goto 4, 3) := by decide +kernel
theorem dX7_nextToken_273 : decode cX7_nextToken 273 = .ok (.iconst 3, 1) := by decide +kernel
theorem dX7_nextToken_274 : decode cX7_nextToken 274 = .ok (.putfield 114, 3) := by decide +kernel
theorem dX7_nextToken_277 : decode cX7_nextToken 277 = .ok (.return_, 1) := by decide +kernel
theorem dX7_must_0 : decode cX7_must 0 = .ok (.iload_n 1, 1) := by decide +kernel
theorem dX7_must_1 : decode cX7_must 1 = .ok (.ifCond .ne 8, 3) := by decide +kernel
theorem dX7_must_4 : decode cX7_must 4 = .ok (.aload_n 0, 1) := by decide +kernel
theorem dX7_must_5 : decode cX7_must 5 = .ok (.iconst 1, 1) := by decide +kernel
theorem dX7_must_6 : decode cX7_must 6 = .ok (.invokevirtual 117, 3) := by decide +kernel
theorem dX7_must_9 : decode cX7_must 9 = .ok (.aload_n 0, 1) := by decide +kernel
theorem dX7_must_10 : decode cX7_must 10 = .ok (.getfield 90, 3) := by decide +kernel
theorem dX7_must_13 : decode cX7_must 13 = .ok (.ifCond .ne 7, 3) := by decide +kernel
theorem dX7_must_16 : decode cX7_must 16 = .ok (.aload_n 0, 1) := by decide +kernel
theorem dX7_must_17 : decode cX7_must 17 = .ok (.invokevirtual 121, 3) := by decide +kernel
theorem dX7_must_20 : decode cX7_must 20 = .ok (.return_, 1) := by decide +kernel
theorem dX7_isLetter_0 : decode cX7_isLetter 0 = .ok (.aload_n 0, 1) := by decide +kernel
theorem dX7_isLetter_1 : decode cX7_isLetter 1 = .ok (.getfield 90, 3) := by decide +kernel
theorem dX7_isLetter_4 : decode cX7_isLetter 4 = .ok (.ifCond .ne 23, 3) := by decide +kernel
theorem dX7_isLetter_7 : decode cX7_isLetter 7 = .ok (.aload_n 0, 1) := by decide +kernel
theorem dX7_isLetter_8 : decode cX7_isLetter 8 = .ok (.getfield 114, 3) := by decide +kernel
theorem dX7_isLetter_11 : decode cX7_isLetter 11 = .ok (.iconst 2, 1) := by decide +kernel
theorem dX7_isLetter_12 : decode cX7_isLetter 12 = .ok (.if_icmp .ne 15, 3) := by decide +kernel
theorem dX7_isLetter_15 : decode cX7_isLetter 15 = .ok (.aload_n 0, 1) := by decide +kernel
theorem dX7_isLetter_16 : decode cX7_isLetter 16 = .ok (.getfield 103, 3) := by decide +kernel
theorem dX7_isLetter_19 : decode cX7_isLetter 19 = .ok (.iload_n 1, 1) := by decide +kernel
theorem dX7_isLetter_20 : decode cX7_isLetter 20 = .ok (.if_icmp .ne 7, 3) := by decide +kernel
theorem dX7_isLetter_23 : decode cX7_isLetter 23 = .ok (.iconst 1, 1) := by decide +kernel
theorem dX7_isLetter_24 : decode cX7_isLetter 24 = .ok (.goto 4, 3) := by decide +kernel
theorem dX7_isLetter_27 : decode cX7_isLetter 27 = .ok (.iconst 0, 1) := by decide +kernel
theorem dX7_isLetter_28 : decode cX7_isLetter 28 = .ok (.ireturn, 1) := by decide +kernel
theorem dX7_number_0 : decode cX7_number 0 = .ok (.aload_n 0, 1) := by decide +kernel
theorem dX7_number_1 : decode cX7_number 1 = .ok (.getfield 90, 3) := by decide +kernel
theorem dX7_number_4 : decode cX7_number 4 = .ok (.ifCond .ne 16, 3) := by decide +kernel
theorem dX7_number_7 : decode cX7_number 7 = .ok (.aload_n 0, 1) := by decide +kernel
theorem dX7_number_8 : decode cX7_number 8 = .ok (.getfield 114, 3) := by decide +kernel
theorem dX7_number_11 : decode cX7_number 11 = .ok (.iconst 3, 1) := by decide +kernel
theorem dX7_number_12 : decode cX7_number 12 = .ok (.if_icmp .eq 8, 3) := by decide +kernel
theorem dX7_number_15 : decode cX7_number 15 = .ok (.aload_n 0, 1) := by decide +kernel
theorem dX7_number_16 : decode cX7_number 16 = .ok (.iconst 1, 1) := by decide +kernel
theorem dX7_number_17 : decode cX7_number 17 = .ok (.invokevirtual 117, 3) := by decide +kernel
theorem dX7_number_20 : decode cX7_number 20 = .ok (.aload_n 0, 1) := by decide +kernel
theorem dX7_number_21 : decode cX7_number 21 = .ok (.getfield 90, 3) := by decide +kernel
theorem dX7_number_24 : decode cX7_number 24 = .ok (.ifCond .ne 23, 3) := by decide +kernel
theorem dX7_number_27 : decode cX7_number 27 = .ok (.aload_n 0, 1) := by decide +kernel
theorem dX7_number_28 : decode cX7_number 28 = .ok (.getfield 103, 3) := by decide +kernel
theorem dX7_number_31 : decode cX7_number 31 = .ok (.i2l, 1) := by decide +kernel
theorem dX7_number_32 : decode cX7_number 32 = .ok (.iload_n 1, 1) := by decide +kernel
theorem dX7_number_33 : decode cX7_number 33 = .ok (.i2l, 1) := by decide +kernel
theorem dX7_number_34 : decode cX7_number 34 = .ok (.iload_n 2, 1) := by decide +kernel
theorem dX7_number_35 : decode cX7_number 35 = .ok (.i2l, 1) := by decide +kernel
theorem dX7_number_36 : decode cX7_number 36 = .ok (.invokestatic 69, 3) := by decide +kernel
theorem dX7_number_39 : decode cX7_number 39 = .ok (.ifCond .ne 8, 3) := by decide +kernel
theorem dX7_number_42 : decode cX7_number 42 = .ok (.aload_n 0, 1) := by decide +kernel
theorem dX7_number_43 : decode cX7_number 43 = .ok (.iconst 2, 1) := by decide +kernel
theorem dX7_number_44 : decode cX7_number 44 = .ok (.invokevirtual 117, 3) := by decide +kernel
theorem dX7_number_47 : decode cX7_number 47 = .ok (.aload_n 0, 1) := by decide +kernel
theorem dX7_number_48 : decode cX7_number 48 = .ok (.getfield 90, 3) := by decide +kernel
theorem dX7_number_51 : decode cX7_number 51 = .ok (.ifCond .ne 10, 3) := by decide +kernel
theorem dX7_number_54 : decode cX7_number 54 = .ok (.aload_n 0, 1) := by decide +kernel
theorem dX7_number_55 : decode cX7_number 55 = .ok (.getfield 103, 3) := by decide +kernel
theorem dX7_number_58 : decode cX7_number 58 = .ok (.goto 4, 3) := by decide +kernel
theorem dX7_number_61 : decode cX7_number 61 = .ok (.iload_n 1, 1) := by decide +kernel
theorem dX7_number_62 : decode cX7_number 62 = .ok (.istore_n 3, 1) := by decide +kernel
theorem dX7_number_63 : decode cX7_number 63 = .ok (.aload_n 0, 1) := by decide +kernel
theorem dX7_number_64 : decode cX7_number 64 = .ok (.iconst 1, 1) := by decide +kernel
theorem dX7_number_65 : decode cX7_number 65 = .ok (.invokevirtual 124, 3) := by decide +kernel
theorem dX7_number_68 : decode cX7_number 68 = .ok (.iload_n 3, 1) := by decide +kernel
theorem dX7_number_69 : decode cX7_number 69 = .ok (.ireturn, 1) := by decide +kernel
theorem dX7_mustSign_0 : decode cX7_mustSign 0 = .ok (.aload_n 0, 1) := by decide +kernel
theorem dX7_mustSign_1 : decode cX7_mustSign 1 = .ok (.aload_n 0, 1) := by decide +kernel
theorem dX7_mustSign_2 : decode cX7_mustSign 2 = .ok (.getfield 114, 3) := by decide +kernel
theorem dX7_mustSign_5 : decode cX7_mustSign 5 = .ok (.iconst 4, 1) := by decide +kernel
theorem dX7_mustSign_6 : decode cX7_mustSign 6 = .ok (.if_icmp .ne 15, 3) := by decide +kernel
theorem dX7_mustSign_9 : decode cX7_mustSign 9 = .ok (.aload_n 0, 1) := by decide +kernel
theorem dX7_mustSign_10 : decode cX7_mustSign 10 = .ok (.getfield 103, 3) := by decide +kernel
theorem dX7_mustSign_13 : decode cX7_mustSign 13 = .ok (.iload_n 1, 1) := by decide +kernel
theorem dX7_mustSign_14 : decode cX7_mustSign 14 = .ok (.if_icmp .ne 7, 3) := by decide +kernel
theorem dX7_mustSign_17 : decode cX7_mustSign 17 = .ok (.iconst 1, 1) := by decide +kernel
theorem dX7_mustSign_18 : decode cX7_mustSign 18 = .ok (.goto 4, 3) := by decide +kernel
theorem dX7_mustSign_21 : decode cX7_mustSign 21 = .ok (.iconst 0, 1) := by decide +kernel
theorem dX7_mustSign_22 : decode cX7_mustSign 22 = .ok (.invokevirtual 124, 3) := by decide +kernel
theorem dX7_mustSign_25 : decode cX7_mustSign 25 = .ok (.return_, 1) := by decide +kernel
theorem dX7_begin_0 : decode cX7_begin 0 = .ok (.aload_n 0, 1) := by decide +kernel
theorem dX7_begin_1 : decode cX7_begin 1 = .ok (.iconst 0, 1) := by decide +kernel
theorem dX7_begin_2 : decode cX7_begin 2 = .ok (.putfield 99, 3) := by decide +kernel
theorem dX7_begin_5 : decode cX7_begin 5 = .ok (.aload_n 0, 1) := by decide +kernel
theorem dX7_begin_6 : decode cX7_begin 6 = .ok (.iconst 0, 1) := by decide +kernel
theorem dX7_begin_7 : decode cX7_begin 7 = .ok (.putfield 90, 3) := by decide +kernel
theorem dX7_begin_10 : decode cX7_begin 10 = .ok (.aload_n 0, 1) := by decide +kernel
theorem dX7_begin_11 : decode cX7_begin 11 = .ok (.invokevirtual 121, 3) := by decide +kernel
theorem dX7_begin_14 : decode cX7_begin 14 = .ok (.return_, 1) := by decide +kernel
theorem dX7_failed_0 : decode cX7_failed 0 = .ok (.aload_n 0, 1) := by decide +kernel
theorem dX7_failed_1 : decode cX7_failed 1 = .ok (.getfield 90, 3) := by decide +kernel
theorem dX7_failed_4 : decode cX7_failed 4 = .ok (.ifCond .ne 16, 3) := by decide +kernel
theorem dX7_failed_7 : decode cX7_failed 7 = .ok (.aload_n 0, 1) := by decide +kernel
theorem dX7_failed_8 : decode cX7_failed 8 = .ok (.getfield 114, 3) := by decide +kernel
theorem dX7_failed_11 : decode cX7_failed 11 = .ok (.iconst 1, 1) := by decide +kernel
theorem dX7_failed_12 : decode cX7_failed 12 = .ok (.if_icmp .eq 8, 3) := by decide +kernel
theorem dX7_failed_15 : decode cX7_failed 15 = .ok (.aload_n 0, 1) := by decide +kernel
theorem dX7_failed_16 : decode cX7_failed 16 = .ok (.iconst 1, 1) := by decide +kernel
theorem dX7_failed_17 : decode cX7_failed 17 = .ok (.invokevirtual 117, 3) := by decide +kernel
theorem dX7_failed_20 : decode cX7_failed 20 = .ok (.aload_n 0, 1) := by decide +kernel
theorem dX7_failed_21 : decode cX7_failed 21 = .ok (.iconst 0, 1) := by decide +kernel
theorem dX7_failed_22 : decode cX7_failed 22 = .ok (.putfield 86, 3) := by decide +kernel
theorem dX7_failed_25 : decode cX7_failed 25 = .ok (.aload_n 0, 1) := by decide +kernel
theorem dX7_failed_26 : decode cX7_failed 26 = .ok (.aload_n 0, 1) := by decide +kernel
theorem dX7_failed_27 : decode cX7_failed 27 = .ok (.getfield 90, 3) := by decide +kernel
theorem dX7_failed_30 : decode cX7_failed 30 = .ok (.ifCond .le 10, 3) := by decide +kernel
theorem dX7_failed_33 : decode cX7_failed 33 = .ok (.aload_n 0, 1) := by decide +kernel
theorem dX7_failed_34 : decode cX7_failed 34 = .ok (.getfield 90, 3) := by decide +kernel
theorem dX7_failed_37 : decode cX7_failed 37 = .ok (.goto 7, 3) := by decide +kernel
theorem dX7_failed_40 : decode cX7_failed 40 = .ok (.aload_n 0, 1) := by decide +kernel
theorem dX7_failed_41 : decode cX7_failed 41 = .ok (.getfield 128, 3) := by decide +kernel
theorem dX7_failed_44 : decode cX7_failed 44 = .ok (.putfield 128, 3) := by decide +kernel
theorem dX7_failed_47 : decode cX7_failed 47 = .ok (.aload_n 0, 1) := by decide +kernel
theorem dX7_failed_48 : decode cX7_failed 48 = .ok (.getfield 90, 3) := by decide +kernel
theorem dX7_failed_51 : decode cX7_failed 51 = .ok (.ifCond .le 7, 3) := by decide +kernel
theorem dX7_failed_54 : decode cX7_failed 54 = .ok (.iconst 1, 1) := by decide +kernel
theorem dX7_failed_55 : decode cX7_failed 55 = .ok (.goto 4, 3) := by decide +kernel
theorem dX7_failed_58 : decode cX7_failed 58 = .ok (.iconst 0, 1) := by decide +kernel
theorem dX7_failed_59 : decode cX7_failed 59 = .ok (.ireturn, 1) := by decide +kernel
theorem dX7_fault_0 : decode cX7_fault 0 = .ok (.aload_n 0, 1) := by decide +kernel
theorem dX7_fault_1 : decode cX7_fault 1 = .ok (.iconst 0, 1) := by decide +kernel
theorem dX7_fault_2 : decode cX7_fault 2 = .ok (.putfield 59, 3) := by decide +kernel
theorem dX7_fault_5 : decode cX7_fault 5 = .ok (.aload_n 0, 1) := by decide +kernel
theorem dX7_fault_6 : decode cX7_fault 6 = .ok (.getfield 128, 3) := by decide +kernel
theorem dX7_fault_9 : decode cX7_fault 9 = .ok (.ireturn, 1) := by decide +kernel
theorem dX7_kindBy_0 : decode cX7_kindBy 0 = .ok (.iload_n 0, 1) := by decide +kernel
theorem dX7_kindBy_1 : decode cX7_kindBy 1 = .ok (.bipush 105, 2) := by decide +kernel
theorem dX7_kindBy_3 : decode cX7_kindBy 3 = .ok (.if_icmp .ne 7, 3) := by decide +kernel
theorem dX7_kindBy_6 : decode cX7_kindBy 6 = .ok (.iconst 1, 1) := by decide +kernel
theorem dX7_kindBy_7 : decode cX7_kindBy 7 = .ok (.goto 45, 3) := by decide +kernel
theorem dX7_kindBy_10 : decode cX7_kindBy 10 = .ok (.iload_n 0, 1) := by decide +kernel
theorem dX7_kindBy_11 : decode cX7_kindBy 11 = .ok (.bipush 114, 2) := by decide +kernel
theorem dX7_kindBy_13 : decode cX7_kindBy 13 = .ok (.if_icmp .ne 7, 3) := by decide +kernel
theorem dX7_kindBy_16 : decode cX7_kindBy 16 = .ok (.iconst 2, 1) := by decide +kernel
theorem dX7_kindBy_17 : decode cX7_kindBy 17 = .ok (.goto 35, 3) := by decide +kernel
theorem dX7_kindBy_20 : decode cX7_kindBy 20 = .ok (.iload_n 0, 1) := by decide +kernel
theorem dX7_kindBy_21 : decode cX7_kindBy 21 = .ok (.bipush 99, 2) := by decide +kernel
theorem dX7_kindBy_23 : decode cX7_kindBy 23 = .ok (.if_icmp .ne 7, 3) := by decide +kernel
theorem dX7_kindBy_26 : decode cX7_kindBy 26 = .ok (.iconst 3, 1) := by decide +kernel
theorem dX7_kindBy_27 : decode cX7_kindBy 27 = .ok (.goto 25, 3) := by decide +kernel
theorem dX7_kindBy_30 : decode cX7_kindBy 30 = .ok (.iload_n 0, 1) := by decide +kernel
theorem dX7_kindBy_31 : decode cX7_kindBy 31 = .ok (.bipush 116, 2) := by decide +kernel
theorem dX7_kindBy_33 : decode cX7_kindBy 33 = .ok (.if_icmp .ne 7, 3) := by decide +kernel
theorem dX7_kindBy_36 : decode cX7_kindBy 36 = .ok (.iconst 4, 1) := by decide +kernel
theorem dX7_kindBy_37 : decode cX7_kindBy 37 = .ok (.goto 15, 3) := by decide +kernel
theorem dX7_kindBy_40 : decode cX7_kindBy 40 = .ok (.iload_n 0, 1) := by decide +kernel
theorem dX7_kindBy_41 : decode cX7_kindBy 41 = .ok (.bipush 104, 2) := by decide +kernel
theorem dX7_kindBy_43 : decode cX7_kindBy 43 = .ok (.if_icmp .ne 7, 3) := by decide +kernel
theorem dX7_kindBy_46 : decode cX7_kindBy 46 = .ok (.iconst 5, 1) := by decide +kernel
theorem dX7_kindBy_47 : decode cX7_kindBy 47 = .ok (.goto 5, 3) := by decide +kernel
theorem dX7_kindBy_50 : decode cX7_kindBy 50 = .ok (.ldc 102, 2) := by decide +kernel
theorem dX7_kindBy_52 : decode cX7_kindBy 52 = .ok (.ireturn, 1) := by decide +kernel
theorem dX7_isSort_0 : decode cX7_isSort 0 = .ok (.aload_n 0, 1) := by decide +kernel
theorem dX7_isSort_1 : decode cX7_isSort 1 = .ok (.getfield 90, 3) := by decide +kernel
theorem dX7_isSort_4 : decode cX7_isSort 4 = .ok (.ifCond .ne 27, 3) := by decide +kernel
theorem dX7_isSort_7 : decode cX7_isSort 7 = .ok (.aload_n 0, 1) := by decide +kernel
theorem dX7_isSort_8 : decode cX7_isSort 8 = .ok (.getfield 114, 3) := by decide +kernel
theorem dX7_isSort_11 : decode cX7_isSort 11 = .ok (.iconst 2, 1) := by decide +kernel
theorem dX7_isSort_12 : decode cX7_isSort 12 = .ok (.if_icmp .ne 19, 3) := by decide +kernel
theorem dX7_isSort_15 : decode cX7_isSort 15 = .ok (.aload_n 0, 1) := by decide +kernel
theorem dX7_isSort_16 : decode cX7_isSort 16 = .ok (.getfield 103, 3) := by decide +kernel
theorem dX7_isSort_19 : decode cX7_isSort 19 = .ok (.invokestatic 131, 3) := by decide +kernel
theorem dX7_isSort_22 : decode cX7_isSort 22 = .ok (.ldc 102, 2) := by decide +kernel
theorem dX7_isSort_24 : decode cX7_isSort 24 = .ok (.if_icmp .eq 7, 3) := by decide +kernel
theorem dX7_isSort_27 : decode cX7_isSort 27 = .ok (.iconst 1, 1) := by decide +kernel
theorem dX7_isSort_28 : decode cX7_isSort 28 = .ok (.goto 4, 3) := by decide +kernel
theorem dX7_isSort_31 : decode cX7_isSort 31 = .ok (.iconst 0, 1) := by decide +kernel
theorem dX7_isSort_32 : decode cX7_isSort 32 = .ok (.ireturn, 1) := by decide +kernel
theorem dX7_layAt_0 : decode cX7_layAt 0 = .ok (.aload_n 0, 1) := by decide +kernel
theorem dX7_layAt_1 : decode cX7_layAt 1 = .ok (.iconst 4, 1) := by decide +kernel
theorem dX7_layAt_2 : decode cX7_layAt 2 = .ok (.iconst 3, 1) := by decide +kernel
theorem dX7_layAt_3 : decode cX7_layAt 3 = .ok (.iload_n 1, 1) := by decide +kernel
theorem dX7_layAt_4 : decode cX7_layAt 4 = .ok (.imul, 1) := by decide +kernel
theorem dX7_layAt_5 : decode cX7_layAt 5 = .ok (.iadd, 1) := by decide +kernel
theorem dX7_layAt_6 : decode cX7_layAt 6 = .ok (.iconst 0, 1) := by decide +kernel
theorem dX7_layAt_7 : decode cX7_layAt 7 = .ok (.iadd, 1) := by decide +kernel
theorem dX7_layAt_8 : decode cX7_layAt 8 = .ok (.iload_n 2, 1) := by decide +kernel
theorem dX7_layAt_9 : decode cX7_layAt 9 = .ok (.iastore, 1) := by decide +kernel
theorem dX7_layAt_10 : decode cX7_layAt 10 = .ok (.aload_n 0, 1) := by decide +kernel
theorem dX7_layAt_11 : decode cX7_layAt 11 = .ok (.iconst 4, 1) := by decide +kernel
theorem dX7_layAt_12 : decode cX7_layAt 12 = .ok (.iconst 3, 1) := by decide +kernel
theorem dX7_layAt_13 : decode cX7_layAt 13 = .ok (.iload_n 1, 1) := by decide +kernel
theorem dX7_layAt_14 : decode cX7_layAt 14 = .ok (.imul, 1) := by decide +kernel
theorem dX7_layAt_15 : decode cX7_layAt 15 = .ok (.iadd, 1) := by decide +kernel
theorem dX7_layAt_16 : decode cX7_layAt 16 = .ok (.iconst 1, 1) := by decide +kernel
theorem dX7_layAt_17 : decode cX7_layAt 17 = .ok (.iadd, 1) := by decide +kernel
theorem dX7_layAt_18 : decode cX7_layAt 18 = .ok (.iload_n 3, 1) := by decide +kernel
theorem dX7_layAt_19 : decode cX7_layAt 19 = .ok (.iastore, 1) := by decide +kernel
theorem dX7_layAt_20 : decode cX7_layAt 20 = .ok (.aload_n 0, 1) := by decide +kernel
theorem dX7_layAt_21 : decode cX7_layAt 21 = .ok (.iconst 4, 1) := by decide +kernel
theorem dX7_layAt_22 : decode cX7_layAt 22 = .ok (.iconst 3, 1) := by decide +kernel
theorem dX7_layAt_23 : decode cX7_layAt 23 = .ok (.iload_n 1, 1) := by decide +kernel
theorem dX7_layAt_24 : decode cX7_layAt 24 = .ok (.imul, 1) := by decide +kernel
theorem dX7_layAt_25 : decode cX7_layAt 25 = .ok (.iadd, 1) := by decide +kernel
theorem dX7_layAt_26 : decode cX7_layAt 26 = .ok (.iconst 2, 1) := by decide +kernel
theorem dX7_layAt_27 : decode cX7_layAt 27 = .ok (.iadd, 1) := by decide +kernel
theorem dX7_layAt_28 : decode cX7_layAt 28 = .ok (.iload 4, 2) := by decide +kernel
theorem dX7_layAt_30 : decode cX7_layAt 30 = .ok (.iastore, 1) := by decide +kernel
theorem dX7_layAt_31 : decode cX7_layAt 31 = .ok (.return_, 1) := by decide +kernel
theorem dX7_readParagraph_0 : decode cX7_readParagraph 0 = .ok (.aload_n 0, 1) := by decide +kernel
theorem dX7_readParagraph_1 : decode cX7_readParagraph 1 = .ok (.getfield 103, 3) := by decide +kernel
theorem dX7_readParagraph_4 : decode cX7_readParagraph 4 = .ok (.invokestatic 131, 3) := by decide +kernel
theorem dX7_readParagraph_7 : decode cX7_readParagraph 7 = .ok (.istore_n 1, 1) := by decide +kernel
theorem dX7_readParagraph_8 : decode cX7_readParagraph 8 = .ok (.aload_n 0, 1) := by decide +kernel
theorem dX7_readParagraph_9 : decode cX7_readParagraph 9 = .ok (.getfield 22, 3) := by decide +kernel
theorem dX7_readParagraph_12 : decode cX7_readParagraph 12 = .ok (.iconst 0, 1) := by decide +kernel
theorem dX7_readParagraph_13 : decode cX7_readParagraph 13 = .ok (.iaload, 1) := by decide +kernel
theorem dX7_readParagraph_14 : decode cX7_readParagraph 14 = .ok (.bipush 16, 2) := by decide +kernel
theorem dX7_readParagraph_16 : decode cX7_readParagraph 16 = .ok (.if_icmp .ne 8, 3) := by decide +kernel
theorem dX7_readParagraph_19 : decode cX7_readParagraph 19 = .ok (.aload_n 0, 1) := by decide +kernel
theorem dX7_readParagraph_20 : decode cX7_readParagraph 20 = .ok (.iconst 3, 1) := by decide +kernel
theorem dX7_readParagraph_21 : decode cX7_readParagraph 21 = .ok (.invokevirtual 117, 3) := by decide +kernel
theorem dX7_readParagraph_24 : decode cX7_readParagraph 24 = .ok (.aload_n 0, 1) := by decide +kernel
theorem dX7_readParagraph_25 : decode cX7_readParagraph 25 = .ok (.iconst 1, 1) := by decide +kernel
theorem dX7_readParagraph_26 : decode cX7_readParagraph 26 = .ok (.invokevirtual 124, 3) := by decide +kernel
theorem dX7_readParagraph_29 : decode cX7_readParagraph 29 = .ok (.aload_n 0, 1) := by decide +kernel
theorem dX7_readParagraph_30 : decode cX7_readParagraph 30 = .ok (.iconst 0, 1) := by decide +kernel
theorem dX7_readParagraph_31 : decode cX7_readParagraph 31 = .ok (.iconst 2, 1) := by decide +kernel
theorem dX7_readParagraph_32 : decode cX7_readParagraph 32 = .ok (.invokevirtual 134, 3) := by decide +kernel
theorem dX7_readParagraph_35 : decode cX7_readParagraph 35 = .ok (.istore_n 2, 1) := by decide +kernel
theorem dX7_readParagraph_36 : decode cX7_readParagraph 36 = .ok (.aload_n 0, 1) := by decide +kernel
theorem dX7_readParagraph_37 : decode cX7_readParagraph 37 = .ok (.bipush 44, 2) := by decide +kernel
theorem dX7_readParagraph_39 : decode cX7_readParagraph 39 = .ok (.invokevirtual 138, 3) := by decide +kernel
theorem dX7_readParagraph_42 : decode cX7_readParagraph 42 = .ok (.aload_n 0, 1) := by decide +kernel
theorem dX7_readParagraph_43 : decode cX7_readParagraph 43 = .ok (.iconst 0, 1) := by decide +kernel
theorem dX7_readParagraph_44 : decode cX7_readParagraph 44 = .ok (.bipush 20, 2) := by decide +kernel
theorem dX7_readParagraph_46 : decode cX7_readParagraph 46 = .ok (.invokevirtual 134, 3) := by decide +kernel
theorem dX7_readParagraph_49 : decode cX7_readParagraph 49 = .ok (.istore_n 3, 1) := by decide +kernel
theorem dX7_readParagraph_50 : decode cX7_readParagraph 50 = .ok (.aload_n 0, 1) := by decide +kernel
theorem dX7_readParagraph_51 : decode cX7_readParagraph 51 = .ok (.bipush 59, 2) := by decide +kernel
theorem dX7_readParagraph_53 : decode cX7_readParagraph 53 = .ok (.invokevirtual 138, 3) := by decide +kernel
theorem dX7_readParagraph_56 : decode cX7_readParagraph 56 = .ok (.aload_n 0, 1) := by decide +kernel
theorem dX7_readParagraph_57 : decode cX7_readParagraph 57 = .ok (.getfield 90, 3) := by decide +kernel
theorem dX7_readParagraph_60 : decode cX7_readParagraph 60 = .ok (.ifCond .ne 29, 3) := by decide +kernel
theorem dX7_readParagraph_63 : decode cX7_readParagraph 63 = .ok (.aload_n 0, 1) := by decide +kernel
theorem dX7_readParagraph_64 : decode cX7_readParagraph 64 = .ok (.getfield 22, 3) := by decide +kernel
theorem dX7_readParagraph_67 : decode cX7_readParagraph 67 = .ok (.aload_n 0, 1) := by decide +kernel
theorem dX7_readParagraph_68 : decode cX7_readParagraph 68 = .ok (.getfield 22, 3) := by decide +kernel
theorem dX7_readParagraph_71 : decode cX7_readParagraph 71 = .ok (.iconst 0, 1) := by decide +kernel
theorem dX7_readParagraph_72 : decode cX7_readParagraph 72 = .ok (.iaload, 1) := by decide +kernel
theorem dX7_readParagraph_73 : decode cX7_readParagraph 73 = .ok (.iload_n 1, 1) := by decide +kernel
theorem dX7_readParagraph_74 : decode cX7_readParagraph 74 = .ok (.iload_n 2, 1) := by decide +kernel
theorem dX7_readParagraph_75 : decode cX7_readParagraph 75 = .ok (.iload_n 3, 1) := by decide +kernel
theorem dX7_readParagraph_76 : decode cX7_readParagraph 76 = .ok (.invokestatic 141, 3) := by decide +kernel
theorem dX7_readParagraph_79 : decode cX7_readParagraph 79 = .ok (.aload_n 0, 1) := by decide +kernel
theorem dX7_readParagraph_80 : decode cX7_readParagraph 80 = .ok (.getfield 22, 3) := by decide +kernel
theorem dX7_readParagraph_83 : decode cX7_readParagraph 83 = .ok (.iconst 0, 1) := by decide +kernel
theorem dX7_readParagraph_84 : decode cX7_readParagraph 84 = .ok (.dup2, 1) := by decide +kernel
theorem dX7_readParagraph_85 : decode cX7_readParagraph 85 = .ok (.iaload, 1) := by decide +kernel
theorem dX7_readParagraph_86 : decode cX7_readParagraph 86 = .ok (.iconst 1, 1) := by decide +kernel
theorem dX7_readParagraph_87 : decode cX7_readParagraph 87 = .ok (.iadd, 1) := by decide +kernel
theorem dX7_readParagraph_88 : decode cX7_readParagraph 88 = .ok (.iastore, 1) := by decide +kernel
theorem dX7_readParagraph_89 : decode cX7_readParagraph 89 = .ok (.return_, 1) := by decide +kernel
theorem dX7_sheet_0 : decode cX7_sheet 0 = .ok (.aload_n 0, 1) := by decide +kernel
theorem dX7_sheet_1 : decode cX7_sheet 1 = .ok (.iconst 0, 1) := by decide +kernel
theorem dX7_sheet_2 : decode cX7_sheet 2 = .ok (.putfield 59, 3) := by decide +kernel
theorem dX7_sheet_5 : decode cX7_sheet 5 = .ok (.aload_n 0, 1) := by decide +kernel
theorem dX7_sheet_6 : decode cX7_sheet 6 = .ok (.invokevirtual 145, 3) := by decide +kernel
theorem dX7_sheet_9 : decode cX7_sheet 9 = .ok (.iconst 0, 1) := by decide +kernel
theorem dX7_sheet_10 : decode cX7_sheet 10 = .ok (.istore_n 1, 1) := by decide +kernel
theorem dX7_sheet_11 : decode cX7_sheet 11 = .ok (.iload_n 1, 1) := by decide +kernel
theorem dX7_sheet_12 : decode cX7_sheet 12 = .ok (.bipush 76, 2) := by decide +kernel
theorem dX7_sheet_14 : decode cX7_sheet 14 = .ok (.if_icmp .ge 16, 3) := by decide +kernel
theorem dX7_sheet_17 : decode cX7_sheet 17 = .ok (.aload_n 0, 1) := by decide +kernel
theorem dX7_sheet_18 : decode cX7_sheet 18 = .ok (.getfield 22, 3) := by decide +kernel
theorem dX7_sheet_21 : decode cX7_sheet 21 = .ok (.iload_n 1, 1) := by decide +kernel
theorem dX7_sheet_22 : decode cX7_sheet 22 = .ok (.iconst 0, 1) := by decide +kernel
theorem dX7_sheet_23 : decode cX7_sheet 23 = .ok (.iastore, 1) := by decide +kernel
theorem dX7_sheet_24 : decode cX7_sheet 24 = .ok (.iinc 1 1, 3) := by decide +kernel
theorem dX7_sheet_27 : decode cX7_sheet 27 = .ok (.goto (-16), 3) := by decide +kernel
theorem dX7_sheet_30 : decode cX7_sheet 30 = .ok (.aload_n 0, 1) := by decide +kernel
theorem dX7_sheet_31 : decode cX7_sheet 31 = .ok (.aload_n 0, 1) := by decide +kernel
theorem dX7_sheet_32 : decode cX7_sheet 32 = .ok (.bipush 110, 2) := by decide +kernel
theorem dX7_sheet_34 : decode cX7_sheet 34 = .ok (.invokevirtual 148, 3) := by decide +kernel
theorem dX7_sheet_37 : decode cX7_sheet 37 = .ok (.invokevirtual 124, 3) := by decide +kernel
theorem dX7_sheet_40 : decode cX7_sheet 40 = .ok (.aload_n 0, 1) := by decide +kernel
theorem dX7_sheet_41 : decode cX7_sheet 41 = .ok (.getfield 22, 3) := by decide +kernel
theorem dX7_sheet_44 : decode cX7_sheet 44 = .ok (.iconst 1, 1) := by decide +kernel
theorem dX7_sheet_45 : decode cX7_sheet 45 = .ok (.aload_n 0, 1) := by decide +kernel
theorem dX7_sheet_46 : decode cX7_sheet 46 = .ok (.iconst 0, 1) := by decide +kernel
theorem dX7_sheet_47 : decode cX7_sheet 47 = .ok (.iconst 3, 1) := by decide +kernel
theorem dX7_sheet_48 : decode cX7_sheet 48 = .ok (.invokevirtual 134, 3) := by decide +kernel
theorem dX7_sheet_51 : decode cX7_sheet 51 = .ok (.iastore, 1) := by decide +kernel
theorem dX7_sheet_52 : decode cX7_sheet 52 = .ok (.aload_n 0, 1) := by decide +kernel
theorem dX7_sheet_53 : decode cX7_sheet 53 = .ok (.bipush 44, 2) := by decide +kernel
theorem dX7_sheet_55 : decode cX7_sheet 55 = .ok (.invokevirtual 138, 3) := by decide +kernel
theorem dX7_sheet_58 : decode cX7_sheet 58 = .ok (.aload_n 0, 1) := by decide +kernel
theorem dX7_sheet_59 : decode cX7_sheet 59 = .ok (.getfield 22, 3) := by decide +kernel
theorem dX7_sheet_62 : decode cX7_sheet 62 = .ok (.iconst 2, 1) := by decide +kernel
theorem dX7_sheet_63 : decode cX7_sheet 63 = .ok (.aload_n 0, 1) := by decide +kernel
theorem dX7_sheet_64 : decode cX7_sheet 64 = .ok (.iconst 0, 1) := by decide +kernel
theorem dX7_sheet_65 : decode cX7_sheet 65 = .ok (.iconst 3, 1) := by decide +kernel
theorem dX7_sheet_66 : decode cX7_sheet 66 = .ok (.invokevirtual 134, 3) := by decide +kernel
theorem dX7_sheet_69 : decode cX7_sheet 69 = .ok (.iastore, 1) := by decide +kernel
theorem dX7_sheet_70 : decode cX7_sheet 70 = .ok (.aload_n 0, 1) := by decide +kernel
theorem dX7_sheet_71 : decode cX7_sheet 71 = .ok (.bipush 44, 2) := by decide +kernel
theorem dX7_sheet_73 : decode cX7_sheet 73 = .ok (.invokevirtual 138, 3) := by decide +kernel
theorem dX7_sheet_76 : decode cX7_sheet 76 = .ok (.aload_n 0, 1) := by decide +kernel
theorem dX7_sheet_77 : decode cX7_sheet 77 = .ok (.getfield 22, 3) := by decide +kernel
theorem dX7_sheet_80 : decode cX7_sheet 80 = .ok (.iconst 3, 1) := by decide +kernel
theorem dX7_sheet_81 : decode cX7_sheet 81 = .ok (.aload_n 0, 1) := by decide +kernel
theorem dX7_sheet_82 : decode cX7_sheet 82 = .ok (.iconst 0, 1) := by decide +kernel
theorem dX7_sheet_83 : decode cX7_sheet 83 = .ok (.iconst 3, 1) := by decide +kernel
theorem dX7_sheet_84 : decode cX7_sheet 84 = .ok (.invokevirtual 134, 3) := by decide +kernel
theorem dX7_sheet_87 : decode cX7_sheet 87 = .ok (.iastore, 1) := by decide +kernel
theorem dX7_sheet_88 : decode cX7_sheet 88 = .ok (.aload_n 0, 1) := by decide +kernel
theorem dX7_sheet_89 : decode cX7_sheet 89 = .ok (.bipush 59, 2) := by decide +kernel
theorem dX7_sheet_91 : decode cX7_sheet 91 = .ok (.invokevirtual 138, 3) := by decide +kernel
theorem dX7_sheet_94 : decode cX7_sheet 94 = .ok (.aload_n 0, 1) := by decide +kernel
theorem dX7_sheet_95 : decode cX7_sheet 95 = .ok (.invokevirtual 151, 3) := by decide +kernel
theorem dX7_sheet_98 : decode cX7_sheet 98 = .ok (.ifCond .ne 8, 3) := by decide +kernel
theorem dX7_sheet_101 : decode cX7_sheet 101 = .ok (.aload_n 0, 1) := by decide +kernel
theorem dX7_sheet_102 : decode cX7_sheet 102 = .ok (.iconst 1, 1) := by decide +kernel
theorem dX7_sheet_103 : decode cX7_sheet 103 = .ok (.invokevirtual 117, 3) := by decide +kernel
theorem dX7_sheet_106 : decode cX7_sheet 106 = .ok (.aload_n 0, 1) := by decide +kernel
theorem dX7_sheet_107 : decode cX7_sheet 107 = .ok (.invokevirtual 151, 3) := by decide +kernel
theorem dX7_sheet_110 : decode cX7_sheet 110 = .ok (.ifCond .eq 10, 3) := by decide +kernel
theorem dX7_sheet_113 : decode cX7_sheet 113 = .ok (.aload_n 0, 1) := by decide +kernel
theorem dX7_sheet_114 : decode cX7_sheet 114 = .ok (.invokevirtual 155, 3) := by decide +kernel
theorem dX7_sheet_117 : decode cX7_sheet 117 = .ok (.goto (-11), 3) := by decide +kernel
theorem dX7_sheet_120 : decode cX7_sheet 120 = .ok (.aload_n 0, 1) := by decide +kernel
theorem dX7_sheet_121 : decode cX7_sheet 121 = .ok (.invokevirtual 158, 3) := by decide +kernel
theorem dX7_sheet_124 : decode cX7_sheet 124 = .ok (.ifCond .eq 11, 3) := by decide +kernel
theorem dX7_sheet_127 : decode cX7_sheet 127 = .ok (.ldc 161, 2) := by decide +kernel
theorem dX7_sheet_129 : decode cX7_sheet 129 = .ok (.aload_n 0, 1) := by decide +kernel
theorem dX7_sheet_130 : decode cX7_sheet 130 = .ok (.getfield 96, 3) := by decide +kernel
theorem dX7_sheet_133 : decode cX7_sheet 133 = .ok (.isub, 1) := by decide +kernel
theorem dX7_sheet_134 : decode cX7_sheet 134 = .ok (.ireturn, 1) := by decide +kernel
theorem dX7_sheet_135 : decode cX7_sheet 135 = .ok (.aload_n 0, 1) := by decide +kernel
theorem dX7_sheet_136 : decode cX7_sheet 136 = .ok (.iconst 0, 1) := by decide +kernel
theorem dX7_sheet_137 : decode cX7_sheet 137 = .ok (.putfield 162, 3) := by decide +kernel
theorem dX7_sheet_140 : decode cX7_sheet 140 = .ok (.iconst 0, 1) := by decide +kernel
theorem dX7_sheet_141 : decode cX7_sheet 141 = .ok (.istore_n 1, 1) := by decide +kernel
theorem dX7_sheet_142 : decode cX7_sheet 142 = .ok (.iload_n 1, 1) := by decide +kernel
theorem dX7_sheet_143 : decode cX7_sheet 143 = .ok (.bipush 76, 2) := by decide +kernel
theorem dX7_sheet_145 : decode cX7_sheet 145 = .ok (.if_icmp .ge 21, 3) := by decide +kernel
theorem dX7_sheet_148 : decode cX7_sheet 148 = .ok (.aload_n 0, 1) := by decide +kernel
theorem dX7_sheet_149 : decode cX7_sheet 149 = .ok (.getfield 19, 3) := by decide +kernel
theorem dX7_sheet_152 : decode cX7_sheet 152 = .ok (.iload_n 1, 1) := by decide +kernel
theorem dX7_sheet_153 : decode cX7_sheet 153 = .ok (.aload_n 0, 1) := by decide +kernel
theorem dX7_sheet_154 : decode cX7_sheet 154 = .ok (.getfield 22, 3) := by decide +kernel
theorem dX7_sheet_157 : decode cX7_sheet 157 = .ok (.iload_n 1, 1) := by decide +kernel
theorem dX7_sheet_158 : decode cX7_sheet 158 = .ok (.iaload, 1) := by decide +kernel
theorem dX7_sheet_159 : decode cX7_sheet 159 = .ok (.iastore, 1) := by decide +kernel
theorem dX7_sheet_160 : decode cX7_sheet 160 = .ok (.iinc 1 1, 3) := by decide +kernel
theorem dX7_sheet_163 : decode cX7_sheet 163 = .ok (.goto (-21), 3) := by decide +kernel
theorem dX7_sheet_166 : decode cX7_sheet 166 = .ok (.aload_n 0, 1) := by decide +kernel
theorem dX7_sheet_167 : decode cX7_sheet 167 = .ok (.getfield 19, 3) := by decide +kernel
theorem dX7_sheet_170 : decode cX7_sheet 170 = .ok (.iconst 0, 1) := by decide +kernel
theorem dX7_sheet_171 : decode cX7_sheet 171 = .ok (.iaload, 1) := by decide +kernel
theorem dX7_sheet_172 : decode cX7_sheet 172 = .ok (.ireturn, 1) := by decide +kernel
theorem dX7_isThere_0 : decode cX7_isThere 0 = .ok (.aload_n 0, 1) := by decide +kernel
theorem dX7_isThere_1 : decode cX7_isThere 1 = .ok (.getfield 19, 3) := by decide +kernel
theorem dX7_isThere_4 : decode cX7_isThere 4 = .ok (.iconst 0, 1) := by decide +kernel
theorem dX7_isThere_5 : decode cX7_isThere 5 = .ok (.iaload, 1) := by decide +kernel
theorem dX7_isThere_6 : decode cX7_isThere 6 = .ok (.ifCond .le 7, 3) := by decide +kernel
theorem dX7_isThere_9 : decode cX7_isThere 9 = .ok (.iconst 1, 1) := by decide +kernel
theorem dX7_isThere_10 : decode cX7_isThere 10 = .ok (.goto 4, 3) := by decide +kernel
theorem dX7_isThere_13 : decode cX7_isThere 13 = .ok (.iconst 0, 1) := by decide +kernel
theorem dX7_isThere_14 : decode cX7_isThere 14 = .ok (.ireturn, 1) := by decide +kernel
theorem dX7_isParagraph_0 : decode cX7_isParagraph 0 = .ok (.iload_n 1, 1) := by decide +kernel
theorem dX7_isParagraph_1 : decode cX7_isParagraph 1 = .ok (.i2l, 1) := by decide +kernel
theorem dX7_isParagraph_2 : decode cX7_isParagraph 2 = .ok (.lconst 0, 1) := by decide +kernel
theorem dX7_isParagraph_3 : decode cX7_isParagraph 3 = .ok (.aload_n 0, 1) := by decide +kernel
theorem dX7_isParagraph_4 : decode cX7_isParagraph 4 = .ok (.getfield 19, 3) := by decide +kernel
theorem dX7_isParagraph_7 : decode cX7_isParagraph 7 = .ok (.iconst 0, 1) := by decide +kernel
theorem dX7_isParagraph_8 : decode cX7_isParagraph 8 = .ok (.iaload, 1) := by decide +kernel
theorem dX7_isParagraph_9 : decode cX7_isParagraph 9 = .ok (.iconst 1, 1) := by decide +kernel
theorem dX7_isParagraph_10 : decode cX7_isParagraph 10 = .ok (.isub, 1) := by decide +kernel
theorem dX7_isParagraph_11 : decode cX7_isParagraph 11 = .ok (.i2l, 1) := by decide +kernel
theorem dX7_isParagraph_12 : decode cX7_isParagraph 12 = .ok (.invokestatic 69, 3) := by decide +kernel
theorem dX7_isParagraph_15 : decode cX7_isParagraph 15 = .ok (.ireturn, 1) := by decide +kernel
theorem dX7_has_0 : decode cX7_has 0 = .ok (.iload_n 0, 1) := by decide +kernel
theorem dX7_has_1 : decode cX7_has 1 = .ok (.iload_n 1, 1) := by decide +kernel
theorem dX7_has_2 : decode cX7_has 2 = .ok (.ishr, 1) := by decide +kernel
theorem dX7_has_3 : decode cX7_has 3 = .ok (.iconst 1, 1) := by decide +kernel
theorem dX7_has_4 : decode cX7_has 4 = .ok (.iand, 1) := by decide +kernel
theorem dX7_has_5 : decode cX7_has 5 = .ok (.iconst 1, 1) := by decide +kernel
theorem dX7_has_6 : decode cX7_has 6 = .ok (.if_icmp .ne 7, 3) := by decide +kernel
theorem dX7_has_9 : decode cX7_has 9 = .ok (.iconst 1, 1) := by decide +kernel
theorem dX7_has_10 : decode cX7_has 10 = .ok (.goto 4, 3) := by decide +kernel
theorem dX7_has_13 : decode cX7_has 13 = .ok (.iconst 0, 1) := by decide +kernel
theorem dX7_has_14 : decode cX7_has 14 = .ok (.ireturn, 1) := by decide +kernel
theorem dX7_of_0 : decode cX7_of 0 = .ok (.aload_n 0, 1) := by decide +kernel
theorem dX7_of_1 : decode cX7_of 1 = .ok (.iconst 4, 1) := by decide +kernel
theorem dX7_of_2 : decode cX7_of 2 = .ok (.iconst 3, 1) := by decide +kernel
theorem dX7_of_3 : decode cX7_of 3 = .ok (.iload_n 1, 1) := by decide +kernel
theorem dX7_of_4 : decode cX7_of 4 = .ok (.imul, 1) := by decide +kernel
theorem dX7_of_5 : decode cX7_of 5 = .ok (.iadd, 1) := by decide +kernel
theorem dX7_of_6 : decode cX7_of 6 = .ok (.iload_n 2, 1) := by decide +kernel
theorem dX7_of_7 : decode cX7_of 7 = .ok (.iadd, 1) := by decide +kernel
theorem dX7_of_8 : decode cX7_of 8 = .ok (.iaload, 1) := by decide +kernel
theorem dX7_of_9 : decode cX7_of 9 = .ok (.ireturn, 1) := by decide +kernel
theorem dX7_isLabelled_0 : decode cX7_isLabelled 0 = .ok (.aload_n 0, 1) := by decide +kernel
theorem dX7_isLabelled_1 : decode cX7_isLabelled 1 = .ok (.iload_n 1, 1) := by decide +kernel
theorem dX7_isLabelled_2 : decode cX7_isLabelled 2 = .ok (.iconst 0, 1) := by decide +kernel
theorem dX7_isLabelled_3 : decode cX7_isLabelled 3 = .ok (.invokestatic 165, 3) := by decide +kernel
theorem dX7_isLabelled_6 : decode cX7_isLabelled 6 = .ok (.iconst 4, 1) := by decide +kernel
theorem dX7_isLabelled_7 : decode cX7_isLabelled 7 = .ok (.if_icmp .ge 7, 3) := by decide +kernel
theorem dX7_isLabelled_10 : decode cX7_isLabelled 10 = .ok (.iconst 1, 1) := by decide +kernel
theorem dX7_isLabelled_11 : decode cX7_isLabelled 11 = .ok (.goto 4, 3) := by decide +kernel
theorem dX7_isLabelled_14 : decode cX7_isLabelled 14 = .ok (.iconst 0, 1) := by decide +kernel
theorem dX7_isLabelled_15 : decode cX7_isLabelled 15 = .ok (.ireturn, 1) := by decide +kernel
theorem dX7_become_0 : decode cX7_become 0 = .ok (.aload_n 0, 1) := by decide +kernel
theorem dX7_become_1 : decode cX7_become 1 = .ok (.getfield 34, 3) := by decide +kernel
theorem dX7_become_4 : decode cX7_become 4 = .ok (.iload_n 1, 1) := by decide +kernel
theorem dX7_become_5 : decode cX7_become 5 = .ok (.iload_n 2, 1) := by decide +kernel
theorem dX7_become_6 : decode cX7_become 6 = .ok (.iastore, 1) := by decide +kernel
theorem dX7_become_7 : decode cX7_become 7 = .ok (.aload_n 0, 1) := by decide +kernel
theorem dX7_become_8 : decode cX7_become 8 = .ok (.getfield 37, 3) := by decide +kernel
theorem dX7_become_11 : decode cX7_become 11 = .ok (.iload_n 1, 1) := by decide +kernel
theorem dX7_become_12 : decode cX7_become 12 = .ok (.iload_n 3, 1) := by decide +kernel
theorem dX7_become_13 : decode cX7_become 13 = .ok (.iastore, 1) := by decide +kernel
theorem dX7_become_14 : decode cX7_become 14 = .ok (.return_, 1) := by decide +kernel
theorem dX7_passes_0 : decode cX7_passes 0 = .ok (.aload_n 1, 1) := by decide +kernel
theorem dX7_passes_1 : decode cX7_passes 1 = .ok (.iload_n 2, 1) := by decide +kernel
theorem dX7_passes_2 : decode cX7_passes 2 = .ok (.iconst 0, 1) := by decide +kernel
theorem dX7_passes_3 : decode cX7_passes 3 = .ok (.invokestatic 165, 3) := by decide +kernel
theorem dX7_passes_6 : decode cX7_passes 6 = .ok (.istore_n 3, 1) := by decide +kernel
theorem dX7_passes_7 : decode cX7_passes 7 = .ok (.aload_n 1, 1) := by decide +kernel
theorem dX7_passes_8 : decode cX7_passes 8 = .ok (.iload_n 2, 1) := by decide +kernel
theorem dX7_passes_9 : decode cX7_passes 9 = .ok (.iconst 1, 1) := by decide +kernel
theorem dX7_passes_10 : decode cX7_passes 10 = .ok (.invokestatic 165, 3) := by decide +kernel
theorem dX7_passes_13 : decode cX7_passes 13 = .ok (.istore 4, 2) := by decide +kernel
theorem dX7_passes_15 : decode cX7_passes 15 = .ok (.iload_n 3, 1) := by decide +kernel
theorem dX7_passes_16 : decode cX7_passes 16 = .ok (.iconst 5, 1) := by decide +kernel
theorem dX7_passes_17 : decode cX7_passes 17 = .ok (.if_icmp .ne 48, 3) := by decide +kernel
theorem dX7_passes_20 : decode cX7_passes 20 = .ok (.iconst 0, 1) := by decide +kernel
theorem dX7_passes_21 : decode cX7_passes 21 = .ok (.istore 5, 2) := by decide +kernel
theorem dX7_passes_23 : decode cX7_passes 23 = .ok (.iload 5, 2) := by decide +kernel
theorem dX7_passes_25 : decode cX7_passes 25 = .ok (.iconst 3, 1) := by decide +kernel
theorem dX7_passes_26 : decode cX7_passes 26 = .ok (.if_icmp .ge 39, 3) := by decide +kernel
theorem dX7_passes_29 : decode cX7_passes 29 = .ok (.aload_n 0, 1) := by decide +kernel
theorem dX7_passes_30 : decode cX7_passes 30 = .ok (.iconst 3, 1) := by decide +kernel
theorem dX7_passes_31 : decode cX7_passes 31 = .ok (.iload 5, 2) := by decide +kernel
theorem dX7_passes_33 : decode cX7_passes 33 = .ok (.iadd, 1) := by decide +kernel
theorem dX7_passes_34 : decode cX7_passes 34 = .ok (.aload_n 0, 1) := by decide +kernel
theorem dX7_passes_35 : decode cX7_passes 35 = .ok (.getfield 34, 3) := by decide +kernel
theorem dX7_passes_38 : decode cX7_passes 38 = .ok (.iload 5, 2) := by decide +kernel
theorem dX7_passes_40 : decode cX7_passes 40 = .ok (.iaload, 1) := by decide +kernel
theorem dX7_passes_41 : decode cX7_passes 41 = .ok (.aload_n 0, 1) := by decide +kernel
theorem dX7_passes_42 : decode cX7_passes 42 = .ok (.getfield 37, 3) := by decide +kernel
theorem dX7_passes_45 : decode cX7_passes 45 = .ok (.iload 5, 2) := by decide +kernel
theorem dX7_passes_47 : decode cX7_passes 47 = .ok (.iaload, 1) := by decide +kernel
theorem dX7_passes_48 : decode cX7_passes 48 = .ok (.invokevirtual 169, 3) := by decide +kernel
theorem dX7_passes_51 : decode cX7_passes 51 = .ok (.aload_n 0, 1) := by decide +kernel
theorem dX7_passes_52 : decode cX7_passes 52 = .ok (.iload 5, 2) := by decide +kernel
theorem dX7_passes_54 : decode cX7_passes 54 = .ok (.iconst (-1), 1) := by decide +kernel
theorem dX7_passes_55 : decode cX7_passes 55 = .ok (.iconst 0, 1) := by decide +kernel
theorem dX7_passes_56 : decode cX7_passes 56 = .ok (.invokevirtual 169, 3) := by decide +kernel
theorem dX7_passes_59 : decode cX7_passes 59 = .ok (.iinc 5 1, 3) := by decide +kernel
theorem dX7_passes_62 : decode cX7_passes 62 = .ok (.goto (-39), 3) := by decide +kernel
theorem dX7_passes_65 : decode cX7_passes 65 = .ok (.iload_n 3, 1) := by decide +kernel
theorem dX7_passes_66 : decode cX7_passes 66 = .ok (.iconst 3, 1) := by decide +kernel
theorem dX7_passes_67 : decode cX7_passes 67 = .ok (.if_icmp .ne 42, 3) := by decide +kernel
theorem dX7_passes_70 : decode cX7_passes 70 = .ok (.iconst 0, 1) := by decide +kernel
theorem dX7_passes_71 : decode cX7_passes 71 = .ok (.istore 5, 2) := by decide +kernel
theorem dX7_passes_73 : decode cX7_passes 73 = .ok (.iload 5, 2) := by decide +kernel
theorem dX7_passes_75 : decode cX7_passes 75 = .ok (.iconst 3, 1) := by decide +kernel
theorem dX7_passes_76 : decode cX7_passes 76 = .ok (.if_icmp .ge 33, 3) := by decide +kernel
theorem dX7_passes_79 : decode cX7_passes 79 = .ok (.aload_n 0, 1) := by decide +kernel
theorem dX7_passes_80 : decode cX7_passes 80 = .ok (.iload 5, 2) := by decide +kernel
theorem dX7_passes_82 : decode cX7_passes 82 = .ok (.aload_n 0, 1) := by decide +kernel
theorem dX7_passes_83 : decode cX7_passes 83 = .ok (.getfield 34, 3) := by decide +kernel
theorem dX7_passes_86 : decode cX7_passes 86 = .ok (.iconst 3, 1) := by decide +kernel
theorem dX7_passes_87 : decode cX7_passes 87 = .ok (.iload 5, 2) := by decide +kernel
theorem dX7_passes_89 : decode cX7_passes 89 = .ok (.iadd, 1) := by decide +kernel
theorem dX7_passes_90 : decode cX7_passes 90 = .ok (.iaload, 1) := by decide +kernel
theorem dX7_passes_91 : decode cX7_passes 91 = .ok (.aload_n 0, 1) := by decide +kernel
theorem dX7_passes_92 : decode cX7_passes 92 = .ok (.getfield 37, 3) := by decide +kernel
theorem dX7_passes_95 : decode cX7_passes 95 = .ok (.iconst 3, 1) := by decide +kernel
theorem dX7_passes_96 : decode cX7_passes 96 = .ok (.iload 5, 2) := by decide +kernel
theorem dX7_passes_98 : decode cX7_passes 98 = .ok (.iadd, 1) := by decide +kernel
theorem dX7_passes_99 : decode cX7_passes 99 = .ok (.iaload, 1) := by decide +kernel
theorem dX7_passes_100 : decode cX7_passes 100 = .ok (.invokevirtual 169, 3) := by decide +kernel
theorem dX7_passes_103 : decode cX7_passes 103 = .ok (.iinc 5 1, 3) := by decide +kernel
theorem dX7_passes_106 : decode cX7_passes 106 = .ok (.goto (-33), 3) := by decide +kernel
theorem dX7_passes_109 : decode cX7_passes 109 = .ok (.iload_n 3, 1) := by decide +kernel
theorem dX7_passes_110 : decode cX7_passes 110 = .ok (.iconst 4, 1) := by decide +kernel
theorem dX7_passes_111 : decode cX7_passes 111 = .ok (.if_icmp .ge 61, 3) := by decide +kernel
theorem dX7_passes_114 : decode cX7_passes 114 = .ok (.iload_n 3, 1) := by decide +kernel
theorem dX7_passes_115 : decode cX7_passes 115 = .ok (.iconst 2, 1) := by decide +kernel
theorem dX7_passes_116 : decode cX7_passes 116 = .ok (.if_icmp .ne 19, 3) := by decide +kernel
theorem dX7_passes_119 : decode cX7_passes 119 = .ok (.aload_n 0, 1) := by decide +kernel
theorem dX7_passes_120 : decode cX7_passes 120 = .ok (.iload 4, 2) := by decide +kernel
theorem dX7_passes_122 : decode cX7_passes 122 = .ok (.iconst (-1), 1) := by decide +kernel
theorem dX7_passes_123 : decode cX7_passes 123 = .ok (.aload_n 1, 1) := by decide +kernel
theorem dX7_passes_124 : decode cX7_passes 124 = .ok (.iload_n 2, 1) := by decide +kernel
theorem dX7_passes_125 : decode cX7_passes 125 = .ok (.iconst 2, 1) := by decide +kernel
theorem dX7_passes_126 : decode cX7_passes 126 = .ok (.invokestatic 165, 3) := by decide +kernel
theorem dX7_passes_129 : decode cX7_passes 129 = .ok (.invokevirtual 169, 3) := by decide +kernel
theorem dX7_passes_132 : decode cX7_passes 132 = .ok (.goto 14, 3) := by decide +kernel
theorem dX7_passes_135 : decode cX7_passes 135 = .ok (.aload_n 0, 1) := by decide +kernel
theorem dX7_passes_136 : decode cX7_passes 136 = .ok (.getfield 37, 3) := by decide +kernel
theorem dX7_passes_139 : decode cX7_passes 139 = .ok (.iload 4, 2) := by decide +kernel
theorem dX7_passes_141 : decode cX7_passes 141 = .ok (.dup2, 1) := by decide +kernel
theorem dX7_passes_142 : decode cX7_passes 142 = .ok (.iaload, 1) := by decide +kernel
theorem dX7_passes_143 : decode cX7_passes 143 = .ok (.iconst 1, 1) := by decide +kernel
theorem dX7_passes_144 : decode cX7_passes 144 = .ok (.iadd, 1) := by decide +kernel
theorem dX7_passes_145 : decode cX7_passes 145 = .ok (.iastore, 1) := by decide +kernel
theorem dX7_passes_146 : decode cX7_passes 146 = .ok (.iload 4, 2) := by decide +kernel
theorem dX7_passes_148 : decode cX7_passes 148 = .ok (.iconst 1, 1) := by decide +kernel
theorem dX7_passes_149 : decode cX7_passes 149 = .ok (.iadd, 1) := by decide +kernel
theorem dX7_passes_150 : decode cX7_passes 150 = .ok (.istore 5, 2) := by decide +kernel
theorem dX7_passes_152 : decode cX7_passes 152 = .ok (.iload 5, 2) := by decide +kernel
theorem dX7_passes_154 : decode cX7_passes 154 = .ok (.iconst 3, 1) := by decide +kernel
theorem dX7_passes_155 : decode cX7_passes 155 = .ok (.if_icmp .ge 17, 3) := by decide +kernel
theorem dX7_passes_158 : decode cX7_passes 158 = .ok (.aload_n 0, 1) := by decide +kernel
theorem dX7_passes_159 : decode cX7_passes 159 = .ok (.iload 5, 2) := by decide +kernel
theorem dX7_passes_161 : decode cX7_passes 161 = .ok (.iconst (-1), 1) := by decide +kernel
theorem dX7_passes_162 : decode cX7_passes 162 = .ok (.iconst 0, 1) := by decide +kernel
theorem dX7_passes_163 : decode cX7_passes 163 = .ok (.invokevirtual 169, 3) := by decide +kernel
theorem dX7_passes_166 : decode cX7_passes 166 = .ok (.iinc 5 1, 3) := by decide +kernel
theorem dX7_passes_169 : decode cX7_passes 169 = .ok (.goto (-17), 3) := by decide +kernel
theorem dX7_passes_172 : decode cX7_passes 172 = .ok (.return_, 1) := by decide +kernel
theorem dX7_countAll_0 : decode cX7_countAll 0 = .ok (.iconst 0, 1) := by decide +kernel
theorem dX7_countAll_1 : decode cX7_countAll 1 = .ok (.istore_n 2, 1) := by decide +kernel
theorem dX7_countAll_2 : decode cX7_countAll 2 = .ok (.iload_n 2, 1) := by decide +kernel
theorem dX7_countAll_3 : decode cX7_countAll 3 = .ok (.bipush 6, 2) := by decide +kernel
theorem dX7_countAll_5 : decode cX7_countAll 5 = .ok (.if_icmp .ge 16, 3) := by decide +kernel
theorem dX7_countAll_8 : decode cX7_countAll 8 = .ok (.aload_n 0, 1) := by decide +kernel
theorem dX7_countAll_9 : decode cX7_countAll 9 = .ok (.iload_n 2, 1) := by decide +kernel
theorem dX7_countAll_10 : decode cX7_countAll 10 = .ok (.iconst (-1), 1) := by decide +kernel
theorem dX7_countAll_11 : decode cX7_countAll 11 = .ok (.iconst 0, 1) := by decide +kernel
theorem dX7_countAll_12 : decode cX7_countAll 12 = .ok (.invokevirtual 169, 3) := by decide +kernel
theorem dX7_countAll_15 : decode cX7_countAll 15 = .ok (.iinc 2 1, 3) := by decide +kernel
theorem dX7_countAll_18 : decode cX7_countAll 18 = .ok (.goto (-16), 3) := by decide +kernel
theorem dX7_countAll_21 : decode cX7_countAll 21 = .ok (.iconst 0, 1) := by decide +kernel
theorem dX7_countAll_22 : decode cX7_countAll 22 = .ok (.istore_n 2, 1) := by decide +kernel
theorem dX7_countAll_23 : decode cX7_countAll 23 = .ok (.iload_n 2, 1) := by decide +kernel
theorem dX7_countAll_24 : decode cX7_countAll 24 = .ok (.aload_n 1, 1) := by decide +kernel
theorem dX7_countAll_25 : decode cX7_countAll 25 = .ok (.iconst 0, 1) := by decide +kernel
theorem dX7_countAll_26 : decode cX7_countAll 26 = .ok (.iaload, 1) := by decide +kernel
theorem dX7_countAll_27 : decode cX7_countAll 27 = .ok (.if_icmp .ge 44, 3) := by decide +kernel
theorem dX7_countAll_30 : decode cX7_countAll 30 = .ok (.aload_n 0, 1) := by decide +kernel
theorem dX7_countAll_31 : decode cX7_countAll 31 = .ok (.aload_n 1, 1) := by decide +kernel
theorem dX7_countAll_32 : decode cX7_countAll 32 = .ok (.iload_n 2, 1) := by decide +kernel
theorem dX7_countAll_33 : decode cX7_countAll 33 = .ok (.invokevirtual 173, 3) := by decide +kernel
theorem dX7_countAll_36 : decode cX7_countAll 36 = .ok (.iconst 0, 1) := by decide +kernel
theorem dX7_countAll_37 : decode cX7_countAll 37 = .ok (.istore_n 3, 1) := by decide +kernel
theorem dX7_countAll_38 : decode cX7_countAll 38 = .ok (.iload_n 3, 1) := by decide +kernel
theorem dX7_countAll_39 : decode cX7_countAll 39 = .ok (.iconst 3, 1) := by decide +kernel
theorem dX7_countAll_40 : decode cX7_countAll 40 = .ok (.if_icmp .ge 25, 3) := by decide +kernel
theorem dX7_countAll_43 : decode cX7_countAll 43 = .ok (.aload_n 0, 1) := by decide +kernel
theorem dX7_countAll_44 : decode cX7_countAll 44 = .ok (.getfield 40, 3) := by decide +kernel
theorem dX7_countAll_47 : decode cX7_countAll 47 = .ok (.iconst 3, 1) := by decide +kernel
theorem dX7_countAll_48 : decode cX7_countAll 48 = .ok (.iload_n 2, 1) := by decide +kernel
theorem dX7_countAll_49 : decode cX7_countAll 49 = .ok (.imul, 1) := by decide +kernel
theorem dX7_countAll_50 : decode cX7_countAll 50 = .ok (.iload_n 3, 1) := by decide +kernel
theorem dX7_countAll_51 : decode cX7_countAll 51 = .ok (.iadd, 1) := by decide +kernel
theorem dX7_countAll_52 : decode cX7_countAll 52 = .ok (.aload_n 0, 1) := by decide +kernel
theorem dX7_countAll_53 : decode cX7_countAll 53 = .ok (.getfield 37, 3) := by decide +kernel
theorem dX7_countAll_56 : decode cX7_countAll 56 = .ok (.iload_n 3, 1) := by decide +kernel
theorem dX7_countAll_57 : decode cX7_countAll 57 = .ok (.iaload, 1) := by decide +kernel
theorem dX7_countAll_58 : decode cX7_countAll 58 = .ok (.iastore, 1) := by decide +kernel
theorem dX7_countAll_59 : decode cX7_countAll 59 = .ok (.iinc 3 1, 3) := by decide +kernel
theorem dX7_countAll_62 : decode cX7_countAll 62 = .ok (.goto (-24), 3) := by decide +kernel
theorem dX7_countAll_65 : decode cX7_countAll 65 = .ok (.iinc 2 1, 3) := by decide +kernel
theorem dX7_countAll_68 : decode cX7_countAll 68 = .ok (.goto (-45), 3) := by decide +kernel
theorem dX7_countAll_71 : decode cX7_countAll 71 = .ok (.return_, 1) := by decide +kernel
theorem dX7_ownOf_0 : decode cX7_ownOf 0 = .ok (.aload_n 0, 1) := by decide +kernel
theorem dX7_ownOf_1 : decode cX7_ownOf 1 = .ok (.getfield 40, 3) := by decide +kernel
theorem dX7_ownOf_4 : decode cX7_ownOf 4 = .ok (.iconst 3, 1) := by decide +kernel
theorem dX7_ownOf_5 : decode cX7_ownOf 5 = .ok (.iload_n 2, 1) := by decide +kernel
theorem dX7_ownOf_6 : decode cX7_ownOf 6 = .ok (.imul, 1) := by decide +kernel
theorem dX7_ownOf_7 : decode cX7_ownOf 7 = .ok (.aload_n 1, 1) := by decide +kernel
theorem dX7_ownOf_8 : decode cX7_ownOf 8 = .ok (.iload_n 2, 1) := by decide +kernel
theorem dX7_ownOf_9 : decode cX7_ownOf 9 = .ok (.iconst 1, 1) := by decide +kernel
theorem dX7_ownOf_10 : decode cX7_ownOf 10 = .ok (.invokestatic 165, 3) := by decide +kernel
theorem dX7_ownOf_13 : decode cX7_ownOf 13 = .ok (.iadd, 1) := by decide +kernel
theorem dX7_ownOf_14 : decode cX7_ownOf 14 = .ok (.iaload, 1) := by decide +kernel
theorem dX7_ownOf_15 : decode cX7_ownOf 15 = .ok (.ireturn, 1) := by decide +kernel
theorem dX7_lastTogether_0 : decode cX7_lastTogether 0 = .ok (.aload_n 1, 1) := by decide +kernel
theorem dX7_lastTogether_1 : decode cX7_lastTogether 1 = .ok (.iconst 0, 1) := by decide +kernel
theorem dX7_lastTogether_2 : decode cX7_lastTogether 2 = .ok (.iaload, 1) := by decide +kernel
theorem dX7_lastTogether_3 : decode cX7_lastTogether 3 = .ok (.iconst 1, 1) := by decide +kernel
theorem dX7_lastTogether_4 : decode cX7_lastTogether 4 = .ok (.isub, 1) := by decide +kernel
theorem dX7_lastTogether_5 : decode cX7_lastTogether 5 = .ok (.istore_n 2, 1) := by decide +kernel
theorem dX7_lastTogether_6 : decode cX7_lastTogether 6 = .ok (.iload_n 2, 1) := by decide +kernel
theorem dX7_lastTogether_7 : decode cX7_lastTogether 7 = .ok (.ifCond .ge 7, 3) := by decide +kernel
theorem dX7_lastTogether_10 : decode cX7_lastTogether 10 = .ok (.iconst 0, 1) := by decide +kernel
theorem dX7_lastTogether_11 : decode cX7_lastTogether 11 = .ok (.goto 33, 3) := by decide +kernel
theorem dX7_lastTogether_14 : decode cX7_lastTogether 14 = .ok (.aload_n 0, 1) := by decide +kernel
theorem dX7_lastTogether_15 : decode cX7_lastTogether 15 = .ok (.getfield 40, 3) := by decide +kernel
theorem dX7_lastTogether_18 : decode cX7_lastTogether 18 = .ok (.iconst 3, 1) := by decide +kernel
theorem dX7_lastTogether_19 : decode cX7_lastTogether 19 = .ok (.iload_n 2, 1) := by decide +kernel
theorem dX7_lastTogether_20 : decode cX7_lastTogether 20 = .ok (.imul, 1) := by decide +kernel
theorem dX7_lastTogether_21 : decode cX7_lastTogether 21 = .ok (.iaload, 1) := by decide +kernel
theorem dX7_lastTogether_22 : decode cX7_lastTogether 22 = .ok (.aload_n 0, 1) := by decide +kernel
theorem dX7_lastTogether_23 : decode cX7_lastTogether 23 = .ok (.getfield 40, 3) := by decide +kernel
theorem dX7_lastTogether_26 : decode cX7_lastTogether 26 = .ok (.iconst 3, 1) := by decide +kernel
theorem dX7_lastTogether_27 : decode cX7_lastTogether 27 = .ok (.iload_n 2, 1) := by decide +kernel
theorem dX7_lastTogether_28 : decode cX7_lastTogether 28 = .ok (.imul, 1) := by decide +kernel
theorem dX7_lastTogether_29 : decode cX7_lastTogether 29 = .ok (.iconst 1, 1) := by decide +kernel
theorem dX7_lastTogether_30 : decode cX7_lastTogether 30 = .ok (.iadd, 1) := by decide +kernel
theorem dX7_lastTogether_31 : decode cX7_lastTogether 31 = .ok (.iaload, 1) := by decide +kernel
theorem dX7_lastTogether_32 : decode cX7_lastTogether 32 = .ok (.iadd, 1) := by decide +kernel
theorem dX7_lastTogether_33 : decode cX7_lastTogether 33 = .ok (.aload_n 0, 1) := by decide +kernel
theorem dX7_lastTogether_34 : decode cX7_lastTogether 34 = .ok (.getfield 40, 3) := by decide +kernel
theorem dX7_lastTogether_37 : decode cX7_lastTogether 37 = .ok (.iconst 3, 1) := by decide +kernel
theorem dX7_lastTogether_38 : decode cX7_lastTogether 38 = .ok (.iload_n 2, 1) := by decide +kernel
theorem dX7_lastTogether_39 : decode cX7_lastTogether 39 = .ok (.imul, 1) := by decide +kernel
theorem dX7_lastTogether_40 : decode cX7_lastTogether 40 = .ok (.iconst 2, 1) := by decide +kernel
theorem dX7_lastTogether_41 : decode cX7_lastTogether 41 = .ok (.iadd, 1) := by decide +kernel
theorem dX7_lastTogether_42 : decode cX7_lastTogether 42 = .ok (.iaload, 1) := by decide +kernel
theorem dX7_lastTogether_43 : decode cX7_lastTogether 43 = .ok (.iadd, 1) := by decide +kernel
theorem dX7_lastTogether_44 : decode cX7_lastTogether 44 = .ok (.ireturn, 1) := by decide +kernel
theorem dX7_writes_0 : decode cX7_writes 0 = .ok (.aload_n 0, 1) := by decide +kernel
theorem dX7_writes_1 : decode cX7_writes 1 = .ok (.getfield 43, 3) := by decide +kernel
theorem dX7_writes_4 : decode cX7_writes 4 = .ok (.aload_n 0, 1) := by decide +kernel
theorem dX7_writes_5 : decode cX7_writes 5 = .ok (.getfield 177, 3) := by decide +kernel
theorem dX7_writes_8 : decode cX7_writes 8 = .ok (.iload_n 1, 1) := by decide +kernel
theorem dX7_writes_9 : decode cX7_writes 9 = .ok (.iastore, 1) := by decide +kernel
theorem dX7_writes_10 : decode cX7_writes 10 = .ok (.aload_n 0, 1) := by decide +kernel
theorem dX7_writes_11 : decode cX7_writes 11 = .ok (.dup, 1) := by decide +kernel
theorem dX7_writes_12 : decode cX7_writes 12 = .ok (.getfield 177, 3) := by decide +kernel
theorem dX7_writes_15 : decode cX7_writes 15 = .ok (.iconst 1, 1) := by decide +kernel
theorem dX7_writes_16 : decode cX7_writes 16 = .ok (.iadd, 1) := by decide +kernel
theorem dX7_writes_17 : decode cX7_writes 17 = .ok (.putfield 177, 3) := by decide +kernel
theorem dX7_writes_20 : decode cX7_writes 20 = .ok (.return_, 1) := by decide +kernel
theorem dX7_figures_0 : decode cX7_figures 0 = .ok (.iload_n 1, 1) := by decide +kernel
theorem dX7_figures_1 : decode cX7_figures 1 = .ok (.bipush 9, 2) := by decide +kernel
theorem dX7_figures_3 : decode cX7_figures 3 = .ok (.if_icmp .le 14, 3) := by decide +kernel
theorem dX7_figures_6 : decode cX7_figures 6 = .ok (.aload_n 0, 1) := by decide +kernel
theorem dX7_figures_7 : decode cX7_figures 7 = .ok (.bipush 48, 2) := by decide +kernel
theorem dX7_figures_9 : decode cX7_figures 9 = .ok (.iload_n 1, 1) := by decide +kernel
theorem dX7_figures_10 : decode cX7_figures 10 = .ok (.bipush 10, 2) := by decide +kernel
theorem dX7_figures_12 : decode cX7_figures 12 = .ok (.idiv, 1) := by decide +kernel
theorem dX7_figures_13 : decode cX7_figures 13 = .ok (.iadd, 1) := by decide +kernel
theorem dX7_figures_14 : decode cX7_figures 14 = .ok (.invokevirtual 180, 3) := by decide +kernel
theorem dX7_figures_17 : decode cX7_figures 17 = .ok (.aload_n 0, 1) := by decide +kernel
theorem dX7_figures_18 : decode cX7_figures 18 = .ok (.bipush 48, 2) := by decide +kernel
theorem dX7_figures_20 : decode cX7_figures 20 = .ok (.iload_n 1, 1) := by decide +kernel
theorem dX7_figures_21 : decode cX7_figures 21 = .ok (.bipush 10, 2) := by decide +kernel
theorem dX7_figures_23 : decode cX7_figures 23 = .ok (.irem, 1) := by decide +kernel
theorem dX7_figures_24 : decode cX7_figures 24 = .ok (.iadd, 1) := by decide +kernel
theorem dX7_figures_25 : decode cX7_figures 25 = .ok (.invokevirtual 180, 3) := by decide +kernel
theorem dX7_figures_28 : decode cX7_figures 28 = .ok (.return_, 1) := by decide +kernel
theorem dX7_letters_0 : decode cX7_letters 0 = .ok (.iload_n 1, 1) := by decide +kernel
theorem dX7_letters_1 : decode cX7_letters 1 = .ok (.bipush 26, 2) := by decide +kernel
theorem dX7_letters_3 : decode cX7_letters 3 = .ok (.if_icmp .le 17, 3) := by decide +kernel
theorem dX7_letters_6 : decode cX7_letters 6 = .ok (.aload_n 0, 1) := by decide +kernel
theorem dX7_letters_7 : decode cX7_letters 7 = .ok (.iload_n 2, 1) := by decide +kernel
theorem dX7_letters_8 : decode cX7_letters 8 = .ok (.iload_n 1, 1) := by decide +kernel
theorem dX7_letters_9 : decode cX7_letters 9 = .ok (.iconst 1, 1) := by decide +kernel
theorem dX7_letters_10 : decode cX7_letters 10 = .ok (.isub, 1) := by decide +kernel
theorem dX7_letters_11 : decode cX7_letters 11 = .ok (.bipush 26, 2) := by decide +kernel
theorem dX7_letters_13 : decode cX7_letters 13 = .ok (.idiv, 1) := by decide +kernel
theorem dX7_letters_14 : decode cX7_letters 14 = .ok (.iadd, 1) := by decide +kernel
theorem dX7_letters_15 : decode cX7_letters 15 = .ok (.iconst 1, 1) := by decide +kernel
theorem dX7_letters_16 : decode cX7_letters 16 = .ok (.isub, 1) := by decide +kernel
theorem dX7_letters_17 : decode cX7_letters 17 = .ok (.invokevirtual 180, 3) := by decide +kernel
theorem dX7_letters_20 : decode cX7_letters 20 = .ok (.aload_n 0, 1) := by decide +kernel
theorem dX7_letters_21 : decode cX7_letters 21 = .ok (.iload_n 2, 1) := by decide +kernel
theorem dX7_letters_22 : decode cX7_letters 22 = .ok (.iload_n 1, 1) := by decide +kernel
theorem dX7_letters_23 : decode cX7_letters 23 = .ok (.iconst 1, 1) := by decide +kernel
theorem dX7_letters_24 : decode cX7_letters 24 = .ok (.isub, 1) := by decide +kernel
theorem dX7_letters_25 : decode cX7_letters 25 = .ok (.bipush 26, 2) := by decide +kernel
theorem dX7_letters_27 : decode cX7_letters 27 = .ok (.irem, 1) := by decide +kernel
theorem dX7_letters_28 : decode cX7_letters 28 = .ok (.iadd, 1) := by decide +kernel
theorem dX7_letters_29 : decode cX7_letters 29 = .ok (.invokevirtual 180, 3) := by decide +kernel
theorem dX7_letters_32 : decode cX7_letters 32 = .ok (.return_, 1) := by decide +kernel
theorem dX7_romanFigure_0 : decode cX7_romanFigure 0 = .ok (.iload_n 1, 1) := by decide +kernel
theorem dX7_romanFigure_1 : decode cX7_romanFigure 1 = .ok (.bipush 9, 2) := by decide +kernel
theorem dX7_romanFigure_3 : decode cX7_romanFigure 3 = .ok (.if_icmp .ne 17, 3) := by decide +kernel
theorem dX7_romanFigure_6 : decode cX7_romanFigure 6 = .ok (.aload_n 0, 1) := by decide +kernel
theorem dX7_romanFigure_7 : decode cX7_romanFigure 7 = .ok (.iload_n 2, 1) := by decide +kernel
theorem dX7_romanFigure_8 : decode cX7_romanFigure 8 = .ok (.invokevirtual 180, 3) := by decide +kernel
theorem dX7_romanFigure_11 : decode cX7_romanFigure 11 = .ok (.aload_n 0, 1) := by decide +kernel
theorem dX7_romanFigure_12 : decode cX7_romanFigure 12 = .ok (.iload 4, 2) := by decide +kernel
theorem dX7_romanFigure_14 : decode cX7_romanFigure 14 = .ok (.invokevirtual 180, 3) := by decide +kernel
theorem dX7_romanFigure_17 : decode cX7_romanFigure 17 = .ok (.goto 53, 3) := by decide +kernel
theorem dX7_romanFigure_20 : decode cX7_romanFigure 20 = .ok (.iload_n 1, 1) := by decide +kernel
theorem dX7_romanFigure_21 : decode cX7_romanFigure 21 = .ok (.iconst 4, 1) := by decide +kernel
theorem dX7_romanFigure_22 : decode cX7_romanFigure 22 = .ok (.if_icmp .ne 16, 3) := by decide +kernel
theorem dX7_romanFigure_25 : decode cX7_romanFigure 25 = .ok (.aload_n 0, 1) := by decide +kernel
theorem dX7_romanFigure_26 : decode cX7_romanFigure 26 = .ok (.iload_n 2, 1) := by decide +kernel
theorem dX7_romanFigure_27 : decode cX7_romanFigure 27 = .ok (.invokevirtual 180, 3) := by decide +kernel
theorem dX7_romanFigure_30 : decode cX7_romanFigure 30 = .ok (.aload_n 0, 1) := by decide +kernel
theorem dX7_romanFigure_31 : decode cX7_romanFigure 31 = .ok (.iload_n 3, 1) := by decide +kernel
theorem dX7_romanFigure_32 : decode cX7_romanFigure 32 = .ok (.invokevirtual 180, 3) := by decide +kernel
theorem dX7_romanFigure_35 : decode cX7_romanFigure 35 = .ok (.goto 35, 3) := by decide +kernel
theorem dX7_romanFigure_38 : decode cX7_romanFigure 38 = .ok (.iload_n 1, 1) := by decide +kernel
theorem dX7_romanFigure_39 : decode cX7_romanFigure 39 = .ok (.iconst 4, 1) := by decide +kernel
theorem dX7_romanFigure_40 : decode cX7_romanFigure 40 = .ok (.if_icmp .le 8, 3) := by decide +kernel
theorem dX7_romanFigure_43 : decode cX7_romanFigure 43 = .ok (.aload_n 0, 1) := by decide +kernel
theorem dX7_romanFigure_44 : decode cX7_romanFigure 44 = .ok (.iload_n 3, 1) := by decide +kernel
theorem dX7_romanFigure_45 : decode cX7_romanFigure 45 = .ok (.invokevirtual 180, 3) := by decide +kernel
theorem dX7_romanFigure_48 : decode cX7_romanFigure 48 = .ok (.iconst 0, 1) := by decide +kernel
theorem dX7_romanFigure_49 : decode cX7_romanFigure 49 = .ok (.istore 5, 2) := by decide +kernel
theorem dX7_romanFigure_51 : decode cX7_romanFigure 51 = .ok (.iload 5, 2) := by decide +kernel
theorem dX7_romanFigure_53 : decode cX7_romanFigure 53 = .ok (.iload_n 1, 1) := by decide +kernel
theorem dX7_romanFigure_54 : decode cX7_romanFigure 54 = .ok (.iconst 5, 1) := by decide +kernel
theorem dX7_romanFigure_55 : decode cX7_romanFigure 55 = .ok (.irem, 1) := by decide +kernel
theorem dX7_romanFigure_56 : decode cX7_romanFigure 56 = .ok (.if_icmp .ge 14, 3) := by decide +kernel
theorem dX7_romanFigure_59 : decode cX7_romanFigure 59 = .ok (.aload_n 0, 1) := by decide +kernel
theorem dX7_romanFigure_60 : decode cX7_romanFigure 60 = .ok (.iload_n 2, 1) := by decide +kernel
theorem dX7_romanFigure_61 : decode cX7_romanFigure 61 = .ok (.invokevirtual 180, 3) := by decide +kernel
theorem dX7_romanFigure_64 : decode cX7_romanFigure 64 = .ok (.iinc 5 1, 3) := by decide +kernel
theorem dX7_romanFigure_67 : decode cX7_romanFigure 67 = .ok (.goto (-16), 3) := by decide +kernel
theorem dX7_romanFigure_70 : decode cX7_romanFigure 70 = .ok (.return_, 1) := by decide +kernel
theorem dX7_numerals_0 : decode cX7_numerals 0 = .ok (.iload_n 1, 1) := by decide +kernel
theorem dX7_numerals_1 : decode cX7_numerals 1 = .ok (.ifCond .eq 7, 3) := by decide +kernel
theorem dX7_numerals_4 : decode cX7_numerals 4 = .ok (.iload_n 2, 1) := by decide +kernel
theorem dX7_numerals_5 : decode cX7_numerals 5 = .ok (.ifCond .ne 11, 3) := by decide +kernel
theorem dX7_numerals_8 : decode cX7_numerals 8 = .ok (.aload_n 0, 1) := by decide +kernel
theorem dX7_numerals_9 : decode cX7_numerals 9 = .ok (.iload_n 1, 1) := by decide +kernel
theorem dX7_numerals_10 : decode cX7_numerals 10 = .ok (.invokevirtual 183, 3) := by decide +kernel
theorem dX7_numerals_13 : decode cX7_numerals 13 = .ok (.goto 56, 3) := by decide +kernel
theorem dX7_numerals_16 : decode cX7_numerals 16 = .ok (.iload_n 2, 1) := by decide +kernel
theorem dX7_numerals_17 : decode cX7_numerals 17 = .ok (.iconst 2, 1) := by decide +kernel
theorem dX7_numerals_18 : decode cX7_numerals 18 = .ok (.if_icmp .ne 34, 3) := by decide +kernel
theorem dX7_numerals_21 : decode cX7_numerals 21 = .ok (.aload_n 0, 1) := by decide +kernel
theorem dX7_numerals_22 : decode cX7_numerals 22 = .ok (.iload_n 1, 1) := by decide +kernel
theorem dX7_numerals_23 : decode cX7_numerals 23 = .ok (.bipush 10, 2) := by decide +kernel
theorem dX7_numerals_25 : decode cX7_numerals 25 = .ok (.idiv, 1) := by decide +kernel
theorem dX7_numerals_26 : decode cX7_numerals 26 = .ok (.bipush 120, 2) := by decide +kernel
theorem dX7_numerals_28 : decode cX7_numerals 28 = .ok (.bipush 108, 2) := by decide +kernel
theorem dX7_numerals_30 : decode cX7_numerals 30 = .ok (.bipush 99, 2) := by decide +kernel
theorem dX7_numerals_32 : decode cX7_numerals 32 = .ok (.invokevirtual 186, 3) := by decide +kernel
theorem dX7_numerals_35 : decode cX7_numerals 35 = .ok (.aload_n 0, 1) := by decide +kernel
theorem dX7_numerals_36 : decode cX7_numerals 36 = .ok (.iload_n 1, 1) := by decide +kernel
theorem dX7_numerals_37 : decode cX7_numerals 37 = .ok (.bipush 10, 2) := by decide +kernel
theorem dX7_numerals_39 : decode cX7_numerals 39 = .ok (.irem, 1) := by decide +kernel
theorem dX7_numerals_40 : decode cX7_numerals 40 = .ok (.bipush 105, 2) := by decide +kernel
theorem dX7_numerals_42 : decode cX7_numerals 42 = .ok (.bipush 118, 2) := by decide +kernel
theorem dX7_numerals_44 : decode cX7_numerals 44 = .ok (.bipush 120, 2) := by decide +kernel
theorem dX7_numerals_46 : decode cX7_numerals 46 = .ok (.invokevirtual 186, 3) := by decide +kernel
theorem dX7_numerals_49 : decode cX7_numerals 49 = .ok (.goto 20, 3) := by decide +kernel
theorem dX7_numerals_52 : decode cX7_numerals 52 = .ok (.aload_n 0, 1) := by decide +kernel
theorem dX7_numerals_53 : decode cX7_numerals 53 = .ok (.iload_n 1, 1) := by decide +kernel
theorem dX7_numerals_54 : decode cX7_numerals 54 = .ok (.iload_n 2, 1) := by decide +kernel
theorem dX7_numerals_55 : decode cX7_numerals 55 = .ok (.iconst 1, 1) := by decide +kernel
theorem dX7_numerals_56 : decode cX7_numerals 56 = .ok (.if_icmp .ne 8, 3) := by decide +kernel
theorem dX7_numerals_59 : decode cX7_numerals 59 = .ok (.bipush 97, 2) := by decide +kernel
theorem dX7_numerals_61 : decode cX7_numerals 61 = .ok (.goto 5, 3) := by decide +kernel
theorem dX7_numerals_64 : decode cX7_numerals 64 = .ok (.bipush 65, 2) := by decide +kernel
theorem dX7_numerals_66 : decode cX7_numerals 66 = .ok (.invokevirtual 190, 3) := by decide +kernel
theorem dX7_numerals_69 : decode cX7_numerals 69 = .ok (.return_, 1) := by decide +kernel
theorem dX7_writeLabel_0 : decode cX7_writeLabel 0 = .ok (.aload_n 0, 1) := by decide +kernel
theorem dX7_writeLabel_1 : decode cX7_writeLabel 1 = .ok (.iconst 0, 1) := by decide +kernel
theorem dX7_writeLabel_2 : decode cX7_writeLabel 2 = .ok (.putfield 177, 3) := by decide +kernel
theorem dX7_writeLabel_5 : decode cX7_writeLabel 5 = .ok (.aload_n 1, 1) := by decide +kernel
theorem dX7_writeLabel_6 : decode cX7_writeLabel 6 = .ok (.iload_n 2, 1) := by decide +kernel
theorem dX7_writeLabel_7 : decode cX7_writeLabel 7 = .ok (.invokestatic 194, 3) := by decide +kernel
theorem dX7_writeLabel_10 : decode cX7_writeLabel 10 = .ok (.ifCond .eq 76, 3) := by decide +kernel
theorem dX7_writeLabel_13 : decode cX7_writeLabel 13 = .ok (.aload_n 1, 1) := by decide +kernel
theorem dX7_writeLabel_14 : decode cX7_writeLabel 14 = .ok (.iload_n 2, 1) := by decide +kernel
theorem dX7_writeLabel_15 : decode cX7_writeLabel 15 = .ok (.iconst 1, 1) := by decide +kernel
theorem dX7_writeLabel_16 : decode cX7_writeLabel 16 = .ok (.invokestatic 165, 3) := by decide +kernel
theorem dX7_writeLabel_19 : decode cX7_writeLabel 19 = .ok (.istore 4, 2) := by decide +kernel
theorem dX7_writeLabel_21 : decode cX7_writeLabel 21 = .ok (.iload_n 3, 1) := by decide +kernel
theorem dX7_writeLabel_22 : decode cX7_writeLabel 22 = .ok (.iload 4, 2) := by decide +kernel
theorem dX7_writeLabel_24 : decode cX7_writeLabel 24 = .ok (.if_icmp .ge 7, 3) := by decide +kernel
theorem dX7_writeLabel_27 : decode cX7_writeLabel 27 = .ok (.iload_n 3, 1) := by decide +kernel
theorem dX7_writeLabel_28 : decode cX7_writeLabel 28 = .ok (.goto 5, 3) := by decide +kernel
theorem dX7_writeLabel_31 : decode cX7_writeLabel 31 = .ok (.iload 4, 2) := by decide +kernel
theorem dX7_writeLabel_33 : decode cX7_writeLabel 33 = .ok (.istore 5, 2) := by decide +kernel
theorem dX7_writeLabel_35 : decode cX7_writeLabel 35 = .ok (.iload 5, 2) := by decide +kernel
theorem dX7_writeLabel_37 : decode cX7_writeLabel 37 = .ok (.istore 6, 2) := by decide +kernel
theorem dX7_writeLabel_39 : decode cX7_writeLabel 39 = .ok (.iload 6, 2) := by decide +kernel
theorem dX7_writeLabel_41 : decode cX7_writeLabel 41 = .ok (.iload 4, 2) := by decide +kernel
theorem dX7_writeLabel_43 : decode cX7_writeLabel 43 = .ok (.if_icmp .gt 43, 3) := by decide +kernel
theorem dX7_writeLabel_46 : decode cX7_writeLabel 46 = .ok (.iload 6, 2) := by decide +kernel
theorem dX7_writeLabel_48 : decode cX7_writeLabel 48 = .ok (.iload 5, 2) := by decide +kernel
theorem dX7_writeLabel_50 : decode cX7_writeLabel 50 = .ok (.if_icmp .le 9, 3) := by decide +kernel
theorem dX7_writeLabel_53 : decode cX7_writeLabel 53 = .ok (.aload_n 0, 1) := by decide +kernel
theorem dX7_writeLabel_54 : decode cX7_writeLabel 54 = .ok (.bipush 46, 2) := by decide +kernel
theorem dX7_writeLabel_56 : decode cX7_writeLabel 56 = .ok (.invokevirtual 180, 3) := by decide +kernel
theorem dX7_writeLabel_59 : decode cX7_writeLabel 59 = .ok (.aload_n 0, 1) := by decide +kernel
theorem dX7_writeLabel_60 : decode cX7_writeLabel 60 = .ok (.aload_n 0, 1) := by decide +kernel
theorem dX7_writeLabel_61 : decode cX7_writeLabel 61 = .ok (.getfield 40, 3) := by decide +kernel
theorem dX7_writeLabel_64 : decode cX7_writeLabel 64 = .ok (.iconst 3, 1) := by decide +kernel
theorem dX7_writeLabel_65 : decode cX7_writeLabel 65 = .ok (.iload_n 2, 1) := by decide +kernel
theorem dX7_writeLabel_66 : decode cX7_writeLabel 66 = .ok (.imul, 1) := by decide +kernel
theorem dX7_writeLabel_67 : decode cX7_writeLabel 67 = .ok (.iload 6, 2) := by decide +kernel
theorem dX7_writeLabel_69 : decode cX7_writeLabel 69 = .ok (.iadd, 1) := by decide +kernel
theorem dX7_writeLabel_70 : decode cX7_writeLabel 70 = .ok (.iaload, 1) := by decide +kernel
theorem dX7_writeLabel_71 : decode cX7_writeLabel 71 = .ok (.aload_n 1, 1) := by decide +kernel
theorem dX7_writeLabel_72 : decode cX7_writeLabel 72 = .ok (.iconst 1, 1) := by decide +kernel
theorem dX7_writeLabel_73 : decode cX7_writeLabel 73 = .ok (.iload 6, 2) := by decide +kernel
theorem dX7_writeLabel_75 : decode cX7_writeLabel 75 = .ok (.iadd, 1) := by decide +kernel
theorem dX7_writeLabel_76 : decode cX7_writeLabel 76 = .ok (.iaload, 1) := by decide +kernel
theorem dX7_writeLabel_77 : decode cX7_writeLabel 77 = .ok (.invokevirtual 198, 3) := by decide +kernel
theorem dX7_writeLabel_80 : decode cX7_writeLabel 80 = .ok (.iinc 6 1, 3) := by decide +kernel
theorem dX7_writeLabel_83 : decode cX7_writeLabel 83 = .ok (.goto (-44), 3) := by decide +kernel
theorem dX7_writeLabel_86 : decode cX7_writeLabel 86 = .ok (.return_, 1) := by decide +kernel
theorem dX7_layThen_0 : decode cX7_layThen 0 = .ok (.iconst 0, 1) := by decide +kernel
theorem dX7_layThen_1 : decode cX7_layThen 1 = .ok (.istore_n 1, 1) := by decide +kernel
theorem dX7_layThen_2 : decode cX7_layThen 2 = .ok (.iload_n 1, 1) := by decide +kernel
theorem dX7_layThen_3 : decode cX7_layThen 3 = .ok (.bipush 76, 2) := by decide +kernel
theorem dX7_layThen_5 : decode cX7_layThen 5 = .ok (.if_icmp .ge 21, 3) := by decide +kernel
theorem dX7_layThen_8 : decode cX7_layThen 8 = .ok (.aload_n 0, 1) := by decide +kernel
theorem dX7_layThen_9 : decode cX7_layThen 9 = .ok (.getfield 25, 3) := by decide +kernel
theorem dX7_layThen_12 : decode cX7_layThen 12 = .ok (.iload_n 1, 1) := by decide +kernel
theorem dX7_layThen_13 : decode cX7_layThen 13 = .ok (.aload_n 0, 1) := by decide +kernel
theorem dX7_layThen_14 : decode cX7_layThen 14 = .ok (.getfield 19, 3) := by decide +kernel
theorem dX7_layThen_17 : decode cX7_layThen 17 = .ok (.iload_n 1, 1) := by decide +kernel
theorem dX7_layThen_18 : decode cX7_layThen 18 = .ok (.iaload, 1) := by decide +kernel
theorem dX7_layThen_19 : decode cX7_layThen 19 = .ok (.iastore, 1) := by decide +kernel
theorem dX7_layThen_20 : decode cX7_layThen 20 = .ok (.iinc 1 1, 3) := by decide +kernel
theorem dX7_layThen_23 : decode cX7_layThen 23 = .ok (.goto (-21), 3) := by decide +kernel
theorem dX7_layThen_26 : decode cX7_layThen 26 = .ok (.return_, 1) := by decide +kernel
theorem dX7_putAt_0 : decode cX7_putAt 0 = .ok (.aload_n 0, 1) := by decide +kernel
theorem dX7_putAt_1 : decode cX7_putAt 1 = .ok (.iconst 0, 1) := by decide +kernel
theorem dX7_putAt_2 : decode cX7_putAt 2 = .ok (.iaload, 1) := by decide +kernel
theorem dX7_putAt_3 : decode cX7_putAt 3 = .ok (.istore 5, 2) := by decide +kernel
theorem dX7_putAt_5 : decode cX7_putAt 5 = .ok (.iload 5, 2) := by decide +kernel
theorem dX7_putAt_7 : decode cX7_putAt 7 = .ok (.iload_n 1, 1) := by decide +kernel
theorem dX7_putAt_8 : decode cX7_putAt 8 = .ok (.if_icmp .le 42, 3) := by decide +kernel
theorem dX7_putAt_11 : decode cX7_putAt 11 = .ok (.aload_n 0, 1) := by decide +kernel
theorem dX7_putAt_12 : decode cX7_putAt 12 = .ok (.iload 5, 2) := by decide +kernel
theorem dX7_putAt_14 : decode cX7_putAt 14 = .ok (.aload_n 0, 1) := by decide +kernel
theorem dX7_putAt_15 : decode cX7_putAt 15 = .ok (.iload 5, 2) := by decide +kernel
theorem dX7_putAt_17 : decode cX7_putAt 17 = .ok (.iconst 1, 1) := by decide +kernel
theorem dX7_putAt_18 : decode cX7_putAt 18 = .ok (.isub, 1) := by decide +kernel
theorem dX7_putAt_19 : decode cX7_putAt 19 = .ok (.iconst 0, 1) := by decide +kernel
theorem dX7_putAt_20 : decode cX7_putAt 20 = .ok (.invokestatic 165, 3) := by decide +kernel
theorem dX7_putAt_23 : decode cX7_putAt 23 = .ok (.aload_n 0, 1) := by decide +kernel
theorem dX7_putAt_24 : decode cX7_putAt 24 = .ok (.iload 5, 2) := by decide +kernel
theorem dX7_putAt_26 : decode cX7_putAt 26 = .ok (.iconst 1, 1) := by decide +kernel
theorem dX7_putAt_27 : decode cX7_putAt 27 = .ok (.isub, 1) := by decide +kernel
theorem dX7_putAt_28 : decode cX7_putAt 28 = .ok (.iconst 1, 1) := by decide +kernel
theorem dX7_putAt_29 : decode cX7_putAt 29 = .ok (.invokestatic 165, 3) := by decide +kernel
theorem dX7_putAt_32 : decode cX7_putAt 32 = .ok (.aload_n 0, 1) := by decide +kernel
theorem dX7_putAt_33 : decode cX7_putAt 33 = .ok (.iload 5, 2) := by decide +kernel
theorem dX7_putAt_35 : decode cX7_putAt 35 = .ok (.iconst 1, 1) := by decide +kernel
theorem dX7_putAt_36 : decode cX7_putAt 36 = .ok (.isub, 1) := by decide +kernel
theorem dX7_putAt_37 : decode cX7_putAt 37 = .ok (.iconst 2, 1) := by decide +kernel
theorem dX7_putAt_38 : decode cX7_putAt 38 = .ok (.invokestatic 165, 3) := by decide +kernel
theorem dX7_putAt_41 : decode cX7_putAt 41 = .ok (.invokestatic 141, 3) := by decide +kernel
theorem dX7_putAt_44 : decode cX7_putAt 44 = .ok (.iinc 5 (-1), 3) := by decide +kernel
theorem dX7_putAt_47 : decode cX7_putAt 47 = .ok (.goto (-42), 3) := by decide +kernel
theorem dX7_putAt_50 : decode cX7_putAt 50 = .ok (.aload_n 0, 1) := by decide +kernel
theorem dX7_putAt_51 : decode cX7_putAt 51 = .ok (.iload_n 1, 1) := by decide +kernel
theorem dX7_putAt_52 : decode cX7_putAt 52 = .ok (.iload_n 2, 1) := by decide +kernel
theorem dX7_putAt_53 : decode cX7_putAt 53 = .ok (.iload_n 3, 1) := by decide +kernel
theorem dX7_putAt_54 : decode cX7_putAt 54 = .ok (.iload 4, 2) := by decide +kernel
theorem dX7_putAt_56 : decode cX7_putAt 56 = .ok (.invokestatic 141, 3) := by decide +kernel
theorem dX7_putAt_59 : decode cX7_putAt 59 = .ok (.aload_n 0, 1) := by decide +kernel
theorem dX7_putAt_60 : decode cX7_putAt 60 = .ok (.iconst 0, 1) := by decide +kernel
theorem dX7_putAt_61 : decode cX7_putAt 61 = .ok (.dup2, 1) := by decide +kernel
theorem dX7_putAt_62 : decode cX7_putAt 62 = .ok (.iaload, 1) := by decide +kernel
theorem dX7_putAt_63 : decode cX7_putAt 63 = .ok (.iconst 1, 1) := by decide +kernel
theorem dX7_putAt_64 : decode cX7_putAt 64 = .ok (.iadd, 1) := by decide +kernel
theorem dX7_putAt_65 : decode cX7_putAt 65 = .ok (.iastore, 1) := by decide +kernel
theorem dX7_putAt_66 : decode cX7_putAt 66 = .ok (.return_, 1) := by decide +kernel
theorem dX7_takeOut_0 : decode cX7_takeOut 0 = .ok (.aload_n 0, 1) := by decide +kernel
theorem dX7_takeOut_1 : decode cX7_takeOut 1 = .ok (.iconst 0, 1) := by decide +kernel
theorem dX7_takeOut_2 : decode cX7_takeOut 2 = .ok (.dup2, 1) := by decide +kernel
theorem dX7_takeOut_3 : decode cX7_takeOut 3 = .ok (.iaload, 1) := by decide +kernel
theorem dX7_takeOut_4 : decode cX7_takeOut 4 = .ok (.iconst 1, 1) := by decide +kernel
theorem dX7_takeOut_5 : decode cX7_takeOut 5 = .ok (.isub, 1) := by decide +kernel
theorem dX7_takeOut_6 : decode cX7_takeOut 6 = .ok (.iastore, 1) := by decide +kernel
theorem dX7_takeOut_7 : decode cX7_takeOut 7 = .ok (.iload_n 1, 1) := by decide +kernel
theorem dX7_takeOut_8 : decode cX7_takeOut 8 = .ok (.istore_n 2, 1) := by decide +kernel
theorem dX7_takeOut_9 : decode cX7_takeOut 9 = .ok (.iload_n 2, 1) := by decide +kernel
theorem dX7_takeOut_10 : decode cX7_takeOut 10 = .ok (.aload_n 0, 1) := by decide +kernel
theorem dX7_takeOut_11 : decode cX7_takeOut 11 = .ok (.iconst 0, 1) := by decide +kernel
theorem dX7_takeOut_12 : decode cX7_takeOut 12 = .ok (.iaload, 1) := by decide +kernel
theorem dX7_takeOut_13 : decode cX7_takeOut 13 = .ok (.if_icmp .ge 38, 3) := by decide +kernel
theorem dX7_takeOut_16 : decode cX7_takeOut 16 = .ok (.aload_n 0, 1) := by decide +kernel
theorem dX7_takeOut_17 : decode cX7_takeOut 17 = .ok (.iload_n 2, 1) := by decide +kernel
theorem dX7_takeOut_18 : decode cX7_takeOut 18 = .ok (.aload_n 0, 1) := by decide +kernel
theorem dX7_takeOut_19 : decode cX7_takeOut 19 = .ok (.iload_n 2, 1) := by decide +kernel
theorem dX7_takeOut_20 : decode cX7_takeOut 20 = .ok (.iconst 1, 1) := by decide +kernel
theorem dX7_takeOut_21 : decode cX7_takeOut 21 = .ok (.iadd, 1) := by decide +kernel
theorem dX7_takeOut_22 : decode cX7_takeOut 22 = .ok (.iconst 0, 1) := by decide +kernel
theorem dX7_takeOut_23 : decode cX7_takeOut 23 = .ok (.invokestatic 165, 3) := by decide +kernel
theorem dX7_takeOut_26 : decode cX7_takeOut 26 = .ok (.aload_n 0, 1) := by decide +kernel
theorem dX7_takeOut_27 : decode cX7_takeOut 27 = .ok (.iload_n 2, 1) := by decide +kernel
theorem dX7_takeOut_28 : decode cX7_takeOut 28 = .ok (.iconst 1, 1) := by decide +kernel
theorem dX7_takeOut_29 : decode cX7_takeOut 29 = .ok (.iadd, 1) := by decide +kernel
theorem dX7_takeOut_30 : decode cX7_takeOut 30 = .ok (.iconst 1, 1) := by decide +kernel
theorem dX7_takeOut_31 : decode cX7_takeOut 31 = .ok (.invokestatic 165, 3) := by decide +kernel
theorem dX7_takeOut_34 : decode cX7_takeOut 34 = .ok (.aload_n 0, 1) := by decide +kernel
theorem dX7_takeOut_35 : decode cX7_takeOut 35 = .ok (.iload_n 2, 1) := by decide +kernel
theorem dX7_takeOut_36 : decode cX7_takeOut 36 = .ok (.iconst 1, 1) := by decide +kernel
theorem dX7_takeOut_37 : decode cX7_takeOut 37 = .ok (.iadd, 1) := by decide +kernel
theorem dX7_takeOut_38 : decode cX7_takeOut 38 = .ok (.iconst 2, 1) := by decide +kernel
theorem dX7_takeOut_39 : decode cX7_takeOut 39 = .ok (.invokestatic 165, 3) := by decide +kernel
theorem dX7_takeOut_42 : decode cX7_takeOut 42 = .ok (.invokestatic 141, 3) := by decide +kernel
theorem dX7_takeOut_45 : decode cX7_takeOut 45 = .ok (.iinc 2 1, 3) := by decide +kernel
theorem dX7_takeOut_48 : decode cX7_takeOut 48 = .ok (.goto (-39), 3) := by decide +kernel
theorem dX7_takeOut_51 : decode cX7_takeOut 51 = .ok (.aload_n 0, 1) := by decide +kernel
theorem dX7_takeOut_52 : decode cX7_takeOut 52 = .ok (.aload_n 0, 1) := by decide +kernel
theorem dX7_takeOut_53 : decode cX7_takeOut 53 = .ok (.iconst 0, 1) := by decide +kernel
theorem dX7_takeOut_54 : decode cX7_takeOut 54 = .ok (.iaload, 1) := by decide +kernel
theorem dX7_takeOut_55 : decode cX7_takeOut 55 = .ok (.iconst 0, 1) := by decide +kernel
theorem dX7_takeOut_56 : decode cX7_takeOut 56 = .ok (.iconst 0, 1) := by decide +kernel
theorem dX7_takeOut_57 : decode cX7_takeOut 57 = .ok (.iconst 0, 1) := by decide +kernel
theorem dX7_takeOut_58 : decode cX7_takeOut 58 = .ok (.invokestatic 141, 3) := by decide +kernel
theorem dX7_takeOut_61 : decode cX7_takeOut 61 = .ok (.return_, 1) := by decide +kernel
theorem dX7_moveTo_0 : decode cX7_moveTo 0 = .ok (.aload_n 0, 1) := by decide +kernel
theorem dX7_moveTo_1 : decode cX7_moveTo 1 = .ok (.iload_n 1, 1) := by decide +kernel
theorem dX7_moveTo_2 : decode cX7_moveTo 2 = .ok (.iconst 0, 1) := by decide +kernel
theorem dX7_moveTo_3 : decode cX7_moveTo 3 = .ok (.invokestatic 165, 3) := by decide +kernel
theorem dX7_moveTo_6 : decode cX7_moveTo 6 = .ok (.istore_n 3, 1) := by decide +kernel
theorem dX7_moveTo_7 : decode cX7_moveTo 7 = .ok (.aload_n 0, 1) := by decide +kernel
theorem dX7_moveTo_8 : decode cX7_moveTo 8 = .ok (.iload_n 1, 1) := by decide +kernel
theorem dX7_moveTo_9 : decode cX7_moveTo 9 = .ok (.iconst 1, 1) := by decide +kernel
theorem dX7_moveTo_10 : decode cX7_moveTo 10 = .ok (.invokestatic 165, 3) := by decide +kernel
theorem dX7_moveTo_13 : decode cX7_moveTo 13 = .ok (.istore 4, 2) := by decide +kernel
theorem dX7_moveTo_15 : decode cX7_moveTo 15 = .ok (.aload_n 0, 1) := by decide +kernel
theorem dX7_moveTo_16 : decode cX7_moveTo 16 = .ok (.iload_n 1, 1) := by decide +kernel
theorem dX7_moveTo_17 : decode cX7_moveTo 17 = .ok (.iconst 2, 1) := by decide +kernel
theorem dX7_moveTo_18 : decode cX7_moveTo 18 = .ok (.invokestatic 165, 3) := by decide +kernel
theorem dX7_moveTo_21 : decode cX7_moveTo 21 = .ok (.istore 5, 2) := by decide +kernel
theorem dX7_moveTo_23 : decode cX7_moveTo 23 = .ok (.aload_n 0, 1) := by decide +kernel
theorem dX7_moveTo_24 : decode cX7_moveTo 24 = .ok (.iload_n 1, 1) := by decide +kernel
theorem dX7_moveTo_25 : decode cX7_moveTo 25 = .ok (.invokestatic 201, 3) := by decide +kernel
theorem dX7_moveTo_28 : decode cX7_moveTo 28 = .ok (.aload_n 0, 1) := by decide +kernel
theorem dX7_moveTo_29 : decode cX7_moveTo 29 = .ok (.iload_n 2, 1) := by decide +kernel
theorem dX7_moveTo_30 : decode cX7_moveTo 30 = .ok (.iload_n 3, 1) := by decide +kernel
theorem dX7_moveTo_31 : decode cX7_moveTo 31 = .ok (.iload 4, 2) := by decide +kernel
theorem dX7_moveTo_33 : decode cX7_moveTo 33 = .ok (.iload 5, 2) := by decide +kernel
theorem dX7_moveTo_35 : decode cX7_moveTo 35 = .ok (.invokestatic 204, 3) := by decide +kernel
theorem dX7_moveTo_38 : decode cX7_moveTo 38 = .ok (.return_, 1) := by decide +kernel
theorem dX7_keep_0 : decode cX7_keep 0 = .ok (.aload_n 0, 1) := by decide +kernel
theorem dX7_keep_1 : decode cX7_keep 1 = .ok (.getfield 162, 3) := by decide +kernel
theorem dX7_keep_4 : decode cX7_keep 4 = .ok (.bipush 24, 2) := by decide +kernel
theorem dX7_keep_6 : decode cX7_keep 6 = .ok (.if_icmp .ne 43, 3) := by decide +kernel
theorem dX7_keep_9 : decode cX7_keep 9 = .ok (.iconst 0, 1) := by decide +kernel
theorem dX7_keep_10 : decode cX7_keep 10 = .ok (.istore_n 1, 1) := by decide +kernel
theorem dX7_keep_11 : decode cX7_keep 11 = .ok (.iload_n 1, 1) := by decide +kernel
theorem dX7_keep_12 : decode cX7_keep 12 = .ok (.sipush 1748, 3) := by decide +kernel
theorem dX7_keep_15 : decode cX7_keep 15 = .ok (.if_icmp .ge 24, 3) := by decide +kernel
theorem dX7_keep_18 : decode cX7_keep 18 = .ok (.aload_n 0, 1) := by decide +kernel
theorem dX7_keep_19 : decode cX7_keep 19 = .ok (.getfield 28, 3) := by decide +kernel
theorem dX7_keep_22 : decode cX7_keep 22 = .ok (.iload_n 1, 1) := by decide +kernel
theorem dX7_keep_23 : decode cX7_keep 23 = .ok (.aload_n 0, 1) := by decide +kernel
theorem dX7_keep_24 : decode cX7_keep 24 = .ok (.getfield 28, 3) := by decide +kernel
theorem dX7_keep_27 : decode cX7_keep 27 = .ok (.iload_n 1, 1) := by decide +kernel
theorem dX7_keep_28 : decode cX7_keep 28 = .ok (.bipush 76, 2) := by decide +kernel
theorem dX7_keep_30 : decode cX7_keep 30 = .ok (.iadd, 1) := by decide +kernel
theorem dX7_keep_31 : decode cX7_keep 31 = .ok (.iaload, 1) := by decide +kernel
theorem dX7_keep_32 : decode cX7_keep 32 = .ok (.iastore, 1) := by decide +kernel
theorem dX7_keep_33 : decode cX7_keep 33 = .ok (.iinc 1 1, 3) := by decide +kernel
theorem dX7_keep_36 : decode cX7_keep 36 = .ok (.goto (-25), 3) := by decide +kernel
theorem dX7_keep_39 : decode cX7_keep 39 = .ok (.aload_n 0, 1) := by decide +kernel
theorem dX7_keep_40 : decode cX7_keep 40 = .ok (.dup, 1) := by decide +kernel
theorem dX7_keep_41 : decode cX7_keep 41 = .ok (.getfield 162, 3) := by decide +kernel
theorem dX7_keep_44 : decode cX7_keep 44 = .ok (.iconst 1, 1) := by decide +kernel
theorem dX7_keep_45 : decode cX7_keep 45 = .ok (.isub, 1) := by decide +kernel
theorem dX7_keep_46 : decode cX7_keep 46 = .ok (.putfield 162, 3) := by decide +kernel
theorem dX7_keep_49 : decode cX7_keep 49 = .ok (.iconst 0, 1) := by decide +kernel
theorem dX7_keep_50 : decode cX7_keep 50 = .ok (.istore_n 1, 1) := by decide +kernel
theorem dX7_keep_51 : decode cX7_keep 51 = .ok (.iload_n 1, 1) := by decide +kernel
theorem dX7_keep_52 : decode cX7_keep 52 = .ok (.bipush 76, 2) := by decide +kernel
theorem dX7_keep_54 : decode cX7_keep 54 = .ok (.if_icmp .ge 29, 3) := by decide +kernel
theorem dX7_keep_57 : decode cX7_keep 57 = .ok (.aload_n 0, 1) := by decide +kernel
theorem dX7_keep_58 : decode cX7_keep 58 = .ok (.getfield 28, 3) := by decide +kernel
theorem dX7_keep_61 : decode cX7_keep 61 = .ok (.bipush 76, 2) := by decide +kernel
theorem dX7_keep_63 : decode cX7_keep 63 = .ok (.aload_n 0, 1) := by decide +kernel
theorem dX7_keep_64 : decode cX7_keep 64 = .ok (.getfield 162, 3) := by decide +kernel
theorem dX7_keep_67 : decode cX7_keep 67 = .ok (.imul, 1) := by decide +kernel
theorem dX7_keep_68 : decode cX7_keep 68 = .ok (.iload_n 1, 1) := by decide +kernel
theorem dX7_keep_69 : decode cX7_keep 69 = .ok (.iadd, 1) := by decide +kernel
theorem dX7_keep_70 : decode cX7_keep 70 = .ok (.aload_n 0, 1) := by decide +kernel
theorem dX7_keep_71 : decode cX7_keep 71 = .ok (.getfield 19, 3) := by decide +kernel
theorem dX7_keep_74 : decode cX7_keep 74 = .ok (.iload_n 1, 1) := by decide +kernel
theorem dX7_keep_75 : decode cX7_keep 75 = .ok (.iaload, 1) := by decide +kernel
theorem dX7_keep_76 : decode cX7_keep 76 = .ok (.iastore, 1) := by decide +kernel
theorem dX7_keep_77 : decode cX7_keep 77 = .ok (.iinc 1 1, 3) := by decide +kernel
theorem dX7_keep_80 : decode cX7_keep 80 = .ok (.goto (-29), 3) := by decide +kernel
theorem dX7_keep_83 : decode cX7_keep 83 = .ok (.aload_n 0, 1) := by decide +kernel
theorem dX7_keep_84 : decode cX7_keep 84 = .ok (.dup, 1) := by decide +kernel
theorem dX7_keep_85 : decode cX7_keep 85 = .ok (.getfield 162, 3) := by decide +kernel
theorem dX7_keep_88 : decode cX7_keep 88 = .ok (.iconst 1, 1) := by decide +kernel
theorem dX7_keep_89 : decode cX7_keep 89 = .ok (.iadd, 1) := by decide +kernel
theorem dX7_keep_90 : decode cX7_keep 90 = .ok (.putfield 162, 3) := by decide +kernel
theorem dX7_keep_93 : decode cX7_keep 93 = .ok (.return_, 1) := by decide +kernel
theorem dX7_isSuch_0 : decode cX7_isSuch 0 = .ok (.iload_n 0, 1) := by decide +kernel
theorem dX7_isSuch_1 : decode cX7_isSuch 1 = .ok (.i2l, 1) := by decide +kernel
theorem dX7_isSuch_2 : decode cX7_isSuch 2 = .ok (.lconst 1, 1) := by decide +kernel
theorem dX7_isSuch_3 : decode cX7_isSuch 3 = .ok (.ldc2_w 207, 3) := by decide +kernel
theorem dX7_isSuch_6 : decode cX7_isSuch 6 = .ok (.invokestatic 69, 3) := by decide +kernel
theorem dX7_isSuch_9 : decode cX7_isSuch 9 = .ok (.ifCond .eq 31, 3) := by decide +kernel
theorem dX7_isSuch_12 : decode cX7_isSuch 12 = .ok (.iload_n 1, 1) := by decide +kernel
theorem dX7_isSuch_13 : decode cX7_isSuch 13 = .ok (.i2l, 1) := by decide +kernel
theorem dX7_isSuch_14 : decode cX7_isSuch 14 = .ok (.lconst 0, 1) := by decide +kernel
theorem dX7_isSuch_15 : decode cX7_isSuch 15 = .ok (.ldc2_w 77, 3) := by decide +kernel
theorem dX7_isSuch_18 : decode cX7_isSuch 18 = .ok (.invokestatic 69, 3) := by decide +kernel
theorem dX7_isSuch_21 : decode cX7_isSuch 21 = .ok (.ifCond .eq 19, 3) := by decide +kernel
theorem dX7_isSuch_24 : decode cX7_isSuch 24 = .ok (.iload_n 2, 1) := by decide +kernel
theorem dX7_isSuch_25 : decode cX7_isSuch 25 = .ok (.i2l, 1) := by decide +kernel
theorem dX7_isSuch_26 : decode cX7_isSuch 26 = .ok (.lconst 0, 1) := by decide +kernel
theorem dX7_isSuch_27 : decode cX7_isSuch 27 = .ok (.ldc2_w 209, 3) := by decide +kernel
theorem dX7_isSuch_30 : decode cX7_isSuch 30 = .ok (.invokestatic 69, 3) := by decide +kernel
theorem dX7_isSuch_33 : decode cX7_isSuch 33 = .ok (.ifCond .eq 7, 3) := by decide +kernel
theorem dX7_isSuch_36 : decode cX7_isSuch 36 = .ok (.iconst 1, 1) := by decide +kernel
theorem dX7_isSuch_37 : decode cX7_isSuch 37 = .ok (.goto 4, 3) := by decide +kernel
theorem dX7_isSuch_40 : decode cX7_isSuch 40 = .ok (.iconst 0, 1) := by decide +kernel
theorem dX7_isSuch_41 : decode cX7_isSuch 41 = .ok (.ireturn, 1) := by decide +kernel
theorem dX7_put_0 : decode cX7_put 0 = .ok (.aload_n 0, 1) := by decide +kernel
theorem dX7_put_1 : decode cX7_put 1 = .ok (.iconst 0, 1) := by decide +kernel
theorem dX7_put_2 : decode cX7_put 2 = .ok (.putfield 59, 3) := by decide +kernel
theorem dX7_put_5 : decode cX7_put 5 = .ok (.aload_n 0, 1) := by decide +kernel
theorem dX7_put_6 : decode cX7_put 6 = .ok (.invokevirtual 211, 3) := by decide +kernel
theorem dX7_put_9 : decode cX7_put 9 = .ok (.ifCond .ne 6, 3) := by decide +kernel
theorem dX7_put_12 : decode cX7_put 12 = .ok (.ldc 214, 2) := by decide +kernel
theorem dX7_put_14 : decode cX7_put 14 = .ok (.ireturn, 1) := by decide +kernel
theorem dX7_put_15 : decode cX7_put 15 = .ok (.iload_n 1, 1) := by decide +kernel
theorem dX7_put_16 : decode cX7_put 16 = .ok (.i2l, 1) := by decide +kernel
theorem dX7_put_17 : decode cX7_put 17 = .ok (.lconst 0, 1) := by decide +kernel
theorem dX7_put_18 : decode cX7_put 18 = .ok (.aload_n 0, 1) := by decide +kernel
theorem dX7_put_19 : decode cX7_put 19 = .ok (.getfield 19, 3) := by decide +kernel
theorem dX7_put_22 : decode cX7_put 22 = .ok (.iconst 0, 1) := by decide +kernel
theorem dX7_put_23 : decode cX7_put 23 = .ok (.iaload, 1) := by decide +kernel
theorem dX7_put_24 : decode cX7_put 24 = .ok (.i2l, 1) := by decide +kernel
theorem dX7_put_25 : decode cX7_put 25 = .ok (.invokestatic 69, 3) := by decide +kernel
theorem dX7_put_28 : decode cX7_put 28 = .ok (.ifCond .eq 13, 3) := by decide +kernel
theorem dX7_put_31 : decode cX7_put 31 = .ok (.iload_n 2, 1) := by decide +kernel
theorem dX7_put_32 : decode cX7_put 32 = .ok (.iload_n 3, 1) := by decide +kernel
theorem dX7_put_33 : decode cX7_put 33 = .ok (.iload 4, 2) := by decide +kernel
theorem dX7_put_35 : decode cX7_put 35 = .ok (.invokestatic 215, 3) := by decide +kernel
theorem dX7_put_38 : decode cX7_put 38 = .ok (.ifCond .ne 6, 3) := by decide +kernel
theorem dX7_put_41 : decode cX7_put 41 = .ok (.ldc 79, 2) := by decide +kernel
theorem dX7_put_43 : decode cX7_put 43 = .ok (.ireturn, 1) := by decide +kernel
theorem dX7_put_44 : decode cX7_put 44 = .ok (.aload_n 0, 1) := by decide +kernel
theorem dX7_put_45 : decode cX7_put 45 = .ok (.getfield 19, 3) := by decide +kernel
theorem dX7_put_48 : decode cX7_put 48 = .ok (.iconst 0, 1) := by decide +kernel
theorem dX7_put_49 : decode cX7_put 49 = .ok (.iaload, 1) := by decide +kernel
theorem dX7_put_50 : decode cX7_put 50 = .ok (.bipush 24, 2) := by decide +kernel
theorem dX7_put_52 : decode cX7_put 52 = .ok (.if_icmp .ne 6, 3) := by decide +kernel
theorem dX7_put_55 : decode cX7_put 55 = .ok (.ldc 89, 2) := by decide +kernel
theorem dX7_put_57 : decode cX7_put 57 = .ok (.ireturn, 1) := by decide +kernel
theorem dX7_put_58 : decode cX7_put 58 = .ok (.aload_n 0, 1) := by decide +kernel
theorem dX7_put_59 : decode cX7_put 59 = .ok (.invokevirtual 219, 3) := by decide +kernel
theorem dX7_put_62 : decode cX7_put 62 = .ok (.aload_n 0, 1) := by decide +kernel
theorem dX7_put_63 : decode cX7_put 63 = .ok (.getfield 19, 3) := by decide +kernel
theorem dX7_put_66 : decode cX7_put 66 = .ok (.iload_n 1, 1) := by decide +kernel
theorem dX7_put_67 : decode cX7_put 67 = .ok (.iload_n 2, 1) := by decide +kernel
theorem dX7_put_68 : decode cX7_put 68 = .ok (.iload_n 3, 1) := by decide +kernel
theorem dX7_put_69 : decode cX7_put 69 = .ok (.iload 4, 2) := by decide +kernel
theorem dX7_put_71 : decode cX7_put 71 = .ok (.invokestatic 204, 3) := by decide +kernel
theorem dX7_put_74 : decode cX7_put 74 = .ok (.aload_n 0, 1) := by decide +kernel
theorem dX7_put_75 : decode cX7_put 75 = .ok (.getfield 19, 3) := by decide +kernel
theorem dX7_put_78 : decode cX7_put 78 = .ok (.iconst 0, 1) := by decide +kernel
theorem dX7_put_79 : decode cX7_put 79 = .ok (.iaload, 1) := by decide +kernel
theorem dX7_put_80 : decode cX7_put 80 = .ok (.ireturn, 1) := by decide +kernel
theorem dX7_take_0 : decode cX7_take 0 = .ok (.aload_n 0, 1) := by decide +kernel
theorem dX7_take_1 : decode cX7_take 1 = .ok (.iconst 0, 1) := by decide +kernel
theorem dX7_take_2 : decode cX7_take 2 = .ok (.putfield 59, 3) := by decide +kernel
theorem dX7_take_5 : decode cX7_take 5 = .ok (.aload_n 0, 1) := by decide +kernel
theorem dX7_take_6 : decode cX7_take 6 = .ok (.iload_n 1, 1) := by decide +kernel
theorem dX7_take_7 : decode cX7_take 7 = .ok (.invokevirtual 222, 3) := by decide +kernel
theorem dX7_take_10 : decode cX7_take 10 = .ok (.ifCond .ne 6, 3) := by decide +kernel
theorem dX7_take_13 : decode cX7_take 13 = .ok (.ldc 79, 2) := by decide +kernel
theorem dX7_take_15 : decode cX7_take 15 = .ok (.ireturn, 1) := by decide +kernel
theorem dX7_take_16 : decode cX7_take 16 = .ok (.aload_n 0, 1) := by decide +kernel
theorem dX7_take_17 : decode cX7_take 17 = .ok (.getfield 19, 3) := by decide +kernel
theorem dX7_take_20 : decode cX7_take 20 = .ok (.iconst 0, 1) := by decide +kernel
theorem dX7_take_21 : decode cX7_take 21 = .ok (.iaload, 1) := by decide +kernel
theorem dX7_take_22 : decode cX7_take 22 = .ok (.iconst 1, 1) := by decide +kernel
theorem dX7_take_23 : decode cX7_take 23 = .ok (.if_icmp .ne 6, 3) := by decide +kernel
theorem dX7_take_26 : decode cX7_take 26 = .ok (.ldc 214, 2) := by decide +kernel
theorem dX7_take_28 : decode cX7_take 28 = .ok (.ireturn, 1) := by decide +kernel
theorem dX7_take_29 : decode cX7_take 29 = .ok (.aload_n 0, 1) := by decide +kernel
theorem dX7_take_30 : decode cX7_take 30 = .ok (.invokevirtual 219, 3) := by decide +kernel
theorem dX7_take_33 : decode cX7_take 33 = .ok (.aload_n 0, 1) := by decide +kernel
theorem dX7_take_34 : decode cX7_take 34 = .ok (.getfield 19, 3) := by decide +kernel
theorem dX7_take_37 : decode cX7_take 37 = .ok (.iload_n 1, 1) := by decide +kernel
theorem dX7_take_38 : decode cX7_take 38 = .ok (.invokestatic 201, 3) := by decide +kernel
theorem dX7_take_41 : decode cX7_take 41 = .ok (.aload_n 0, 1) := by decide +kernel
theorem dX7_take_42 : decode cX7_take 42 = .ok (.getfield 19, 3) := by decide +kernel
theorem dX7_take_45 : decode cX7_take 45 = .ok (.iconst 0, 1) := by decide +kernel
theorem dX7_take_46 : decode cX7_take 46 = .ok (.iaload, 1) := by decide +kernel
theorem dX7_take_47 : decode cX7_take 47 = .ok (.ireturn, 1) := by decide +kernel
theorem dX7_move_0 : decode cX7_move 0 = .ok (.aload_n 0, 1) := by decide +kernel
theorem dX7_move_1 : decode cX7_move 1 = .ok (.iconst 0, 1) := by decide +kernel
theorem dX7_move_2 : decode cX7_move 2 = .ok (.putfield 59, 3) := by decide +kernel
theorem dX7_move_5 : decode cX7_move 5 = .ok (.aload_n 0, 1) := by decide +kernel
theorem dX7_move_6 : decode cX7_move 6 = .ok (.iload_n 1, 1) := by decide +kernel
theorem dX7_move_7 : decode cX7_move 7 = .ok (.invokevirtual 222, 3) := by decide +kernel
theorem dX7_move_10 : decode cX7_move 10 = .ok (.ifCond .eq 11, 3) := by decide +kernel
theorem dX7_move_13 : decode cX7_move 13 = .ok (.aload_n 0, 1) := by decide +kernel
theorem dX7_move_14 : decode cX7_move 14 = .ok (.iload_n 2, 1) := by decide +kernel
theorem dX7_move_15 : decode cX7_move 15 = .ok (.invokevirtual 222, 3) := by decide +kernel
theorem dX7_move_18 : decode cX7_move 18 = .ok (.ifCond .ne 6, 3) := by decide +kernel
theorem dX7_move_21 : decode cX7_move 21 = .ok (.ldc 79, 2) := by decide +kernel
theorem dX7_move_23 : decode cX7_move 23 = .ok (.ireturn, 1) := by decide +kernel
theorem dX7_move_24 : decode cX7_move 24 = .ok (.iload_n 1, 1) := by decide +kernel
theorem dX7_move_25 : decode cX7_move 25 = .ok (.iload_n 2, 1) := by decide +kernel
theorem dX7_move_26 : decode cX7_move 26 = .ok (.if_icmp .ne 6, 3) := by decide +kernel
theorem dX7_move_29 : decode cX7_move 29 = .ok (.ldc 214, 2) := by decide +kernel
theorem dX7_move_31 : decode cX7_move 31 = .ok (.ireturn, 1) := by decide +kernel
theorem dX7_move_32 : decode cX7_move 32 = .ok (.aload_n 0, 1) := by decide +kernel
theorem dX7_move_33 : decode cX7_move 33 = .ok (.invokevirtual 219, 3) := by decide +kernel
theorem dX7_move_36 : decode cX7_move 36 = .ok (.aload_n 0, 1) := by decide +kernel
theorem dX7_move_37 : decode cX7_move 37 = .ok (.getfield 19, 3) := by decide +kernel
theorem dX7_move_40 : decode cX7_move 40 = .ok (.iload_n 1, 1) := by decide +kernel
theorem dX7_move_41 : decode cX7_move 41 = .ok (.iconst 1, 1) := by decide +kernel
theorem dX7_move_42 : decode cX7_move 42 = .ok (.invokestatic 165, 3) := by decide +kernel
theorem dX7_move_45 : decode cX7_move 45 = .ok (.istore_n 3, 1) := by decide +kernel
theorem dX7_move_46 : decode cX7_move 46 = .ok (.aload_n 0, 1) := by decide +kernel
theorem dX7_move_47 : decode cX7_move 47 = .ok (.getfield 19, 3) := by decide +kernel
theorem dX7_move_50 : decode cX7_move 50 = .ok (.iload_n 1, 1) := by decide +kernel
theorem dX7_move_51 : decode cX7_move 51 = .ok (.iload_n 2, 1) := by decide +kernel
theorem dX7_move_52 : decode cX7_move 52 = .ok (.invokestatic 225, 3) := by decide +kernel
theorem dX7_move_55 : decode cX7_move 55 = .ok (.iload_n 3, 1) := by decide +kernel
theorem dX7_move_56 : decode cX7_move 56 = .ok (.ireturn, 1) := by decide +kernel
theorem dX7_change_0 : decode cX7_change 0 = .ok (.aload_n 0, 1) := by decide +kernel
theorem dX7_change_1 : decode cX7_change 1 = .ok (.iconst 0, 1) := by decide +kernel
theorem dX7_change_2 : decode cX7_change 2 = .ok (.putfield 59, 3) := by decide +kernel
theorem dX7_change_5 : decode cX7_change 5 = .ok (.aload_n 0, 1) := by decide +kernel
theorem dX7_change_6 : decode cX7_change 6 = .ok (.iload_n 1, 1) := by decide +kernel
theorem dX7_change_7 : decode cX7_change 7 = .ok (.invokevirtual 222, 3) := by decide +kernel
theorem dX7_change_10 : decode cX7_change 10 = .ok (.ifCond .eq 13, 3) := by decide +kernel
theorem dX7_change_13 : decode cX7_change 13 = .ok (.iload_n 2, 1) := by decide +kernel
theorem dX7_change_14 : decode cX7_change 14 = .ok (.iload_n 3, 1) := by decide +kernel
theorem dX7_change_15 : decode cX7_change 15 = .ok (.iload 4, 2) := by decide +kernel
theorem dX7_change_17 : decode cX7_change 17 = .ok (.invokestatic 215, 3) := by decide +kernel
theorem dX7_change_20 : decode cX7_change 20 = .ok (.ifCond .ne 6, 3) := by decide +kernel
theorem dX7_change_23 : decode cX7_change 23 = .ok (.ldc 79, 2) := by decide +kernel
theorem dX7_change_25 : decode cX7_change 25 = .ok (.ireturn, 1) := by decide +kernel
theorem dX7_change_26 : decode cX7_change 26 = .ok (.aload_n 0, 1) := by decide +kernel
theorem dX7_change_27 : decode cX7_change 27 = .ok (.invokevirtual 219, 3) := by decide +kernel
theorem dX7_change_30 : decode cX7_change 30 = .ok (.aload_n 0, 1) := by decide +kernel
theorem dX7_change_31 : decode cX7_change 31 = .ok (.getfield 19, 3) := by decide +kernel
theorem dX7_change_34 : decode cX7_change 34 = .ok (.iload_n 1, 1) := by decide +kernel
theorem dX7_change_35 : decode cX7_change 35 = .ok (.iconst 0, 1) := by decide +kernel
theorem dX7_change_36 : decode cX7_change 36 = .ok (.invokestatic 165, 3) := by decide +kernel
theorem dX7_change_39 : decode cX7_change 39 = .ok (.istore 5, 2) := by decide +kernel
theorem dX7_change_41 : decode cX7_change 41 = .ok (.aload_n 0, 1) := by decide +kernel
theorem dX7_change_42 : decode cX7_change 42 = .ok (.getfield 19, 3) := by decide +kernel
theorem dX7_change_45 : decode cX7_change 45 = .ok (.iload_n 1, 1) := by decide +kernel
theorem dX7_change_46 : decode cX7_change 46 = .ok (.iload_n 2, 1) := by decide +kernel
theorem dX7_change_47 : decode cX7_change 47 = .ok (.iload_n 3, 1) := by decide +kernel
theorem dX7_change_48 : decode cX7_change 48 = .ok (.iload 4, 2) := by decide +kernel
theorem dX7_change_50 : decode cX7_change 50 = .ok (.invokestatic 141, 3) := by decide +kernel
theorem dX7_change_53 : decode cX7_change 53 = .ok (.iload 5, 2) := by decide +kernel
theorem dX7_change_55 : decode cX7_change 55 = .ok (.ireturn, 1) := by decide +kernel
theorem dX7_style_0 : decode cX7_style 0 = .ok (.aload_n 0, 1) := by decide +kernel
theorem dX7_style_1 : decode cX7_style 1 = .ok (.iconst 0, 1) := by decide +kernel
theorem dX7_style_2 : decode cX7_style 2 = .ok (.putfield 59, 3) := by decide +kernel
theorem dX7_style_5 : decode cX7_style 5 = .ok (.aload_n 0, 1) := by decide +kernel
theorem dX7_style_6 : decode cX7_style 6 = .ok (.invokevirtual 211, 3) := by decide +kernel
theorem dX7_style_9 : decode cX7_style 9 = .ok (.ifCond .ne 6, 3) := by decide +kernel
theorem dX7_style_12 : decode cX7_style 12 = .ok (.ldc 214, 2) := by decide +kernel
theorem dX7_style_14 : decode cX7_style 14 = .ok (.ireturn, 1) := by decide +kernel
theorem dX7_style_15 : decode cX7_style 15 = .ok (.iload_n 1, 1) := by decide +kernel
theorem dX7_style_16 : decode cX7_style 16 = .ok (.i2l, 1) := by decide +kernel
theorem dX7_style_17 : decode cX7_style 17 = .ok (.lconst 0, 1) := by decide +kernel
theorem dX7_style_18 : decode cX7_style 18 = .ok (.ldc2_w 77, 3) := by decide +kernel
theorem dX7_style_21 : decode cX7_style 21 = .ok (.invokestatic 69, 3) := by decide +kernel
