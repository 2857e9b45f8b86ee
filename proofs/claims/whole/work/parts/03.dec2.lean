theorem dX6_init_0 : decode cX6_init 0 = .ok (.aload_n 0, 1) := by decide +kernel
theorem dX6_init_1 : decode cX6_init 1 = .ok (.invokespecial 3, 3) := by decide +kernel
theorem dX6_init_4 : decode cX6_init 4 = .ok (.aload_n 0, 1) := by decide +kernel
theorem dX6_init_5 : decode cX6_init 5 = .ok (.bipush 8, 2) := by decide +kernel
theorem dX6_init_7 : decode cX6_init 7 = .ok (.anewarray 9, 3) := by decide +kernel
theorem dX6_init_10 : decode cX6_init 10 = .ok (.putfield 11, 3) := by decide +kernel
theorem dX6_init_13 : decode cX6_init 13 = .ok (.aload_n 0, 1) := by decide +kernel
theorem dX6_init_14 : decode cX6_init 14 = .ok (.new 15, 3) := by decide +kernel
theorem dX6_init_17 : decode cX6_init 17 = .ok (.dup, 1) := by decide +kernel
theorem dX6_init_18 : decode cX6_init 18 = .ok (.invokespecial 17, 3) := by decide +kernel
theorem dX6_init_21 : decode cX6_init 21 = .ok (.putfield 18, 3) := by decide +kernel
theorem dX6_init_24 : decode cX6_init 24 = .ok (.aload_n 0, 1) := by decide +kernel
theorem dX6_init_25 : decode cX6_init 25 = .ok (.new 22, 3) := by decide +kernel
theorem dX6_init_28 : decode cX6_init 28 = .ok (.dup, 1) := by decide +kernel
theorem dX6_init_29 : decode cX6_init 29 = .ok (.invokespecial 24, 3) := by decide +kernel
theorem dX6_init_32 : decode cX6_init 32 = .ok (.putfield 25, 3) := by decide +kernel
theorem dX6_init_35 : decode cX6_init 35 = .ok (.aload_n 0, 1) := by decide +kernel
theorem dX6_init_36 : decode cX6_init 36 = .ok (.new 22, 3) := by decide +kernel
theorem dX6_init_39 : decode cX6_init 39 = .ok (.dup, 1) := by decide +kernel
theorem dX6_init_40 : decode cX6_init 40 = .ok (.invokespecial 24, 3) := by decide +kernel
theorem dX6_init_43 : decode cX6_init 43 = .ok (.putfield 29, 3) := by decide +kernel
theorem dX6_init_46 : decode cX6_init 46 = .ok (.aload_n 0, 1) := by decide +kernel
theorem dX6_init_47 : decode cX6_init 47 = .ok (.iconst 2, 1) := by decide +kernel
theorem dX6_init_48 : decode cX6_init 48 = .ok (.anewarray 22, 3) := by decide +kernel
theorem dX6_init_51 : decode cX6_init 51 = .ok (.putfield 32, 3) := by decide +kernel
theorem dX6_init_54 : decode cX6_init 54 = .ok (.aload_n 0, 1) := by decide +kernel
theorem dX6_init_55 : decode cX6_init 55 = .ok (.new 36, 3) := by decide +kernel
theorem dX6_init_58 : decode cX6_init 58 = .ok (.dup, 1) := by decide +kernel
theorem dX6_init_59 : decode cX6_init 59 = .ok (.invokespecial 38, 3) := by decide +kernel
theorem dX6_init_62 : decode cX6_init 62 = .ok (.putfield 39, 3) := by decide +kernel
theorem dX6_init_65 : decode cX6_init 65 = .ok (.aload_n 0, 1) := by decide +kernel
theorem dX6_init_66 : decode cX6_init 66 = .ok (.bipush 24, 2) := by decide +kernel
theorem dX6_init_68 : decode cX6_init 68 = .ok (.anewarray 43, 3) := by decide +kernel
theorem dX6_init_71 : decode cX6_init 71 = .ok (.putfield 45, 3) := by decide +kernel
theorem dX6_init_74 : decode cX6_init 74 = .ok (.aload_n 0, 1) := by decide +kernel
theorem dX6_init_75 : decode cX6_init 75 = .ok (.new 43, 3) := by decide +kernel
theorem dX6_init_78 : decode cX6_init 78 = .ok (.dup, 1) := by decide +kernel
theorem dX6_init_79 : decode cX6_init 79 = .ok (.invokespecial 49, 3) := by decide +kernel
theorem dX6_init_82 : decode cX6_init 82 = .ok (.putfield 50, 3) := by decide +kernel
theorem dX6_init_85 : decode cX6_init 85 = .ok (.aload_n 0, 1) := by decide +kernel
theorem dX6_init_86 : decode cX6_init 86 = .ok (.bipush 6, 2) := by decide +kernel
theorem dX6_init_88 : decode cX6_init 88 = .ok (.newarray .int, 2) := by decide +kernel
theorem dX6_init_90 : decode cX6_init 90 = .ok (.putfield 54, 3) := by decide +kernel
theorem dX6_init_93 : decode cX6_init 93 = .ok (.aload_n 0, 1) := by decide +kernel
theorem dX6_init_94 : decode cX6_init 94 = .ok (.iconst 5, 1) := by decide +kernel
theorem dX6_init_95 : decode cX6_init 95 = .ok (.newarray .int, 2) := by decide +kernel
theorem dX6_init_97 : decode cX6_init 97 = .ok (.putfield 58, 3) := by decide +kernel
theorem dX6_init_100 : decode cX6_init 100 = .ok (.aload_n 0, 1) := by decide +kernel
theorem dX6_init_101 : decode cX6_init 101 = .ok (.bipush 16, 2) := by decide +kernel
theorem dX6_init_103 : decode cX6_init 103 = .ok (.newarray .int, 2) := by decide +kernel
theorem dX6_init_105 : decode cX6_init 105 = .ok (.putfield 61, 3) := by decide +kernel
theorem dX6_init_108 : decode cX6_init 108 = .ok (.aload_n 0, 1) := by decide +kernel
theorem dX6_init_109 : decode cX6_init 109 = .ok (.iconst 0, 1) := by decide +kernel
theorem dX6_init_110 : decode cX6_init 110 = .ok (.putfield 64, 3) := by decide +kernel
theorem dX6_init_113 : decode cX6_init 113 = .ok (.aload_n 0, 1) := by decide +kernel
theorem dX6_init_114 : decode cX6_init 114 = .ok (.iconst 0, 1) := by decide +kernel
theorem dX6_init_115 : decode cX6_init 115 = .ok (.putfield 68, 3) := by decide +kernel
theorem dX6_init_118 : decode cX6_init 118 = .ok (.aload_n 0, 1) := by decide +kernel
theorem dX6_init_119 : decode cX6_init 119 = .ok (.iconst 0, 1) := by decide +kernel
theorem dX6_init_120 : decode cX6_init 120 = .ok (.putfield 71, 3) := by decide +kernel
theorem dX6_init_123 : decode cX6_init 123 = .ok (.iconst 0, 1) := by decide +kernel
theorem dX6_init_124 : decode cX6_init 124 = .ok (.istore_n 1, 1) := by decide +kernel
theorem dX6_init_125 : decode cX6_init 125 = .ok (.iload_n 1, 1) := by decide +kernel
theorem dX6_init_126 : decode cX6_init 126 = .ok (.bipush 8, 2) := by decide +kernel
theorem dX6_init_128 : decode cX6_init 128 = .ok (.if_icmp .ge 22, 3) := by decide +kernel
theorem dX6_init_131 : decode cX6_init 131 = .ok (.aload_n 0, 1) := by decide +kernel
theorem dX6_init_132 : decode cX6_init 132 = .ok (.getfield 11, 3) := by decide +kernel
theorem dX6_init_135 : decode cX6_init 135 = .ok (.iload_n 1, 1) := by decide +kernel
theorem dX6_init_136 : decode cX6_init 136 = .ok (.new 9, 3) := by decide +kernel
theorem dX6_init_139 : decode cX6_init 139 = .ok (.dup, 1) := by decide +kernel
theorem dX6_init_140 : decode cX6_init 140 = .ok (.invokespecial 74, 3) := by decide +kernel
theorem dX6_init_143 : decode cX6_init 143 = .ok (.aastore, 1) := by decide +kernel
theorem dX6_init_144 : decode cX6_init 144 = .ok (.iinc 1 1, 3) := by decide +kernel
theorem dX6_init_147 : decode cX6_init 147 = .ok (.goto (-22), 3) := by decide +kernel
theorem dX6_init_150 : decode cX6_init 150 = .ok (.iconst 0, 1) := by decide +kernel
theorem dX6_init_151 : decode cX6_init 151 = .ok (.istore_n 1, 1) := by decide +kernel
theorem dX6_init_152 : decode cX6_init 152 = .ok (.iload_n 1, 1) := by decide +kernel
theorem dX6_init_153 : decode cX6_init 153 = .ok (.iconst 2, 1) := by decide +kernel
theorem dX6_init_154 : decode cX6_init 154 = .ok (.if_icmp .ge 22, 3) := by decide +kernel
theorem dX6_init_157 : decode cX6_init 157 = .ok (.aload_n 0, 1) := by decide +kernel
theorem dX6_init_158 : decode cX6_init 158 = .ok (.getfield 32, 3) := by decide +kernel
theorem dX6_init_161 : decode cX6_init 161 = .ok (.iload_n 1, 1) := by decide +kernel
theorem dX6_init_162 : decode cX6_init 162 = .ok (.new 22, 3) := by decide +kernel
theorem dX6_init_165 : decode cX6_init 165 = .ok (.dup, 1) := by decide +kernel
theorem dX6_init_166 : decode cX6_init 166 = .ok (.invokespecial 24, 3) := by decide +kernel
theorem dX6_init_169 : decode cX6_init 169 = .ok (.aastore, 1) := by decide +kernel
theorem dX6_init_170 : decode cX6_init 170 = .ok (.iinc 1 1, 3) := by decide +kernel
theorem dX6_init_173 : decode cX6_init 173 = .ok (.goto (-21), 3) := by decide +kernel
theorem dX6_init_176 : decode cX6_init 176 = .ok (.iconst 0, 1) := by decide +kernel
theorem dX6_init_177 : decode cX6_init 177 = .ok (.istore_n 1, 1) := by decide +kernel
theorem dX6_init_178 : decode cX6_init 178 = .ok (.iload_n 1, 1) := by decide +kernel
theorem dX6_init_179 : decode cX6_init 179 = .ok (.bipush 24, 2) := by decide +kernel
theorem dX6_init_181 : decode cX6_init 181 = .ok (.if_icmp .ge 22, 3) := by decide +kernel
theorem dX6_init_184 : decode cX6_init 184 = .ok (.aload_n 0, 1) := by decide +kernel
theorem dX6_init_185 : decode cX6_init 185 = .ok (.getfield 45, 3) := by decide +kernel
theorem dX6_init_188 : decode cX6_init 188 = .ok (.iload_n 1, 1) := by decide +kernel
theorem dX6_init_189 : decode cX6_init 189 = .ok (.new 43, 3) := by decide +kernel
theorem dX6_init_192 : decode cX6_init 192 = .ok (.dup, 1) := by decide +kernel
theorem dX6_init_193 : decode cX6_init 193 = .ok (.invokespecial 49, 3) := by decide +kernel
theorem dX6_init_196 : decode cX6_init 196 = .ok (.aastore, 1) := by decide +kernel
theorem dX6_init_197 : decode cX6_init 197 = .ok (.iinc 1 1, 3) := by decide +kernel
theorem dX6_init_200 : decode cX6_init 200 = .ok (.goto (-22), 3) := by decide +kernel
theorem dX6_init_203 : decode cX6_init 203 = .ok (.return_, 1) := by decide +kernel
theorem dX6_row_0 : decode cX6_row 0 = .ok (.iload_n 1, 1) := by decide +kernel
theorem dX6_row_1 : decode cX6_row 1 = .ok (.invokestatic 75, 3) := by decide +kernel
theorem dX6_row_4 : decode cX6_row 4 = .ok (.ifCond .eq 18, 3) := by decide +kernel
theorem dX6_row_7 : decode cX6_row 7 = .ok (.iload_n 2, 1) := by decide +kernel
theorem dX6_row_8 : decode cX6_row 8 = .ok (.iconst 0, 1) := by decide +kernel
theorem dX6_row_9 : decode cX6_row 9 = .ok (.iconst 2, 1) := by decide +kernel
theorem dX6_row_10 : decode cX6_row 10 = .ok (.invokestatic 79, 3) := by decide +kernel
theorem dX6_row_13 : decode cX6_row 13 = .ok (.ifCond .eq 9, 3) := by decide +kernel
theorem dX6_row_16 : decode cX6_row 16 = .ok (.iload_n 3, 1) := by decide +kernel
theorem dX6_row_17 : decode cX6_row 17 = .ok (.bipush 40, 2) := by decide +kernel
theorem dX6_row_19 : decode cX6_row 19 = .ok (.if_icmp .le 6, 3) := by decide +kernel
theorem dX6_row_22 : decode cX6_row 22 = .ok (.ldc 83, 2) := by decide +kernel
theorem dX6_row_24 : decode cX6_row 24 = .ok (.ireturn, 1) := by decide +kernel
theorem dX6_row_25 : decode cX6_row 25 = .ok (.iload_n 3, 1) := by decide +kernel
theorem dX6_row_26 : decode cX6_row 26 = .ok (.ifCond .ge 9, 3) := by decide +kernel
theorem dX6_row_29 : decode cX6_row 29 = .ok (.aload_n 0, 1) := by decide +kernel
theorem dX6_row_30 : decode cX6_row 30 = .ok (.iconst 4, 1) := by decide +kernel
theorem dX6_row_31 : decode cX6_row 31 = .ok (.invokevirtual 84, 3) := by decide +kernel
theorem dX6_row_34 : decode cX6_row 34 = .ok (.ireturn, 1) := by decide +kernel
theorem dX6_row_35 : decode cX6_row 35 = .ok (.aload_n 0, 1) := by decide +kernel
theorem dX6_row_36 : decode cX6_row 36 = .ok (.getfield 11, 3) := by decide +kernel
theorem dX6_row_39 : decode cX6_row 39 = .ok (.iload_n 1, 1) := by decide +kernel
theorem dX6_row_40 : decode cX6_row 40 = .ok (.aaload, 1) := by decide +kernel
theorem dX6_row_41 : decode cX6_row 41 = .ok (.iload_n 2, 1) := by decide +kernel
theorem dX6_row_42 : decode cX6_row 42 = .ok (.iload_n 3, 1) := by decide +kernel
theorem dX6_row_43 : decode cX6_row 43 = .ok (.invokevirtual 88, 3) := by decide +kernel
theorem dX6_row_46 : decode cX6_row 46 = .ok (.aload_n 0, 1) := by decide +kernel
theorem dX6_row_47 : decode cX6_row 47 = .ok (.iload_n 3, 1) := by decide +kernel
theorem dX6_row_48 : decode cX6_row 48 = .ok (.invokevirtual 92, 3) := by decide +kernel
theorem dX6_row_51 : decode cX6_row 51 = .ok (.ireturn, 1) := by decide +kernel
theorem dX6_set_0 : decode cX6_set 0 = .ok (.iload_n 1, 1) := by decide +kernel
theorem dX6_set_1 : decode cX6_set 1 = .ok (.invokestatic 75, 3) := by decide +kernel
theorem dX6_set_4 : decode cX6_set 4 = .ok (.ifCond .ne 6, 3) := by decide +kernel
theorem dX6_set_7 : decode cX6_set 7 = .ok (.ldc 83, 2) := by decide +kernel
theorem dX6_set_9 : decode cX6_set 9 = .ok (.ireturn, 1) := by decide +kernel
theorem dX6_set_10 : decode cX6_set 10 = .ok (.aload_n 0, 1) := by decide +kernel
theorem dX6_set_11 : decode cX6_set 11 = .ok (.getfield 11, 3) := by decide +kernel
theorem dX6_set_14 : decode cX6_set 14 = .ok (.iload_n 1, 1) := by decide +kernel
theorem dX6_set_15 : decode cX6_set 15 = .ok (.aaload, 1) := by decide +kernel
theorem dX6_set_16 : decode cX6_set 16 = .ok (.astore 4, 2) := by decide +kernel
theorem dX6_set_18 : decode cX6_set 18 = .ok (.aload 4, 2) := by decide +kernel
theorem dX6_set_20 : decode cX6_set 20 = .ok (.iload_n 2, 1) := by decide +kernel
theorem dX6_set_21 : decode cX6_set 21 = .ok (.iconst 1, 1) := by decide +kernel
theorem dX6_set_22 : decode cX6_set 22 = .ok (.invokevirtual 95, 3) := by decide +kernel
theorem dX6_set_25 : decode cX6_set 25 = .ok (.istore 5, 2) := by decide +kernel
theorem dX6_set_27 : decode cX6_set 27 = .ok (.iload 5, 2) := by decide +kernel
theorem dX6_set_29 : decode cX6_set 29 = .ok (.ifCond .eq 10, 3) := by decide +kernel
theorem dX6_set_32 : decode cX6_set 32 = .ok (.aload_n 0, 1) := by decide +kernel
theorem dX6_set_33 : decode cX6_set 33 = .ok (.iload 5, 2) := by decide +kernel
theorem dX6_set_35 : decode cX6_set 35 = .ok (.invokevirtual 84, 3) := by decide +kernel
theorem dX6_set_38 : decode cX6_set 38 = .ok (.ireturn, 1) := by decide +kernel
theorem dX6_set_39 : decode cX6_set 39 = .ok (.aload 4, 2) := by decide +kernel
theorem dX6_set_41 : decode cX6_set 41 = .ok (.getfield 99, 3) := by decide +kernel
theorem dX6_set_44 : decode cX6_set 44 = .ok (.iload_n 2, 1) := by decide +kernel
theorem dX6_set_45 : decode cX6_set 45 = .ok (.aload 4, 2) := by decide +kernel
theorem dX6_set_47 : decode cX6_set 47 = .ok (.iload_n 3, 1) := by decide +kernel
theorem dX6_set_48 : decode cX6_set 48 = .ok (.invokevirtual 102, 3) := by decide +kernel
theorem dX6_set_51 : decode cX6_set 51 = .ok (.iastore, 1) := by decide +kernel
theorem dX6_set_52 : decode cX6_set 52 = .ok (.aload_n 0, 1) := by decide +kernel
theorem dX6_set_53 : decode cX6_set 53 = .ok (.aload 4, 2) := by decide +kernel
theorem dX6_set_55 : decode cX6_set 55 = .ok (.getfield 99, 3) := by decide +kernel
theorem dX6_set_58 : decode cX6_set 58 = .ok (.iload_n 2, 1) := by decide +kernel
theorem dX6_set_59 : decode cX6_set 59 = .ok (.iaload, 1) := by decide +kernel
theorem dX6_set_60 : decode cX6_set 60 = .ok (.invokevirtual 92, 3) := by decide +kernel
theorem dX6_set_63 : decode cX6_set 63 = .ok (.ireturn, 1) := by decide +kernel
theorem dX6_copy_0 : decode cX6_copy 0 = .ok (.iload_n 1, 1) := by decide +kernel
theorem dX6_copy_1 : decode cX6_copy 1 = .ok (.invokestatic 75, 3) := by decide +kernel
theorem dX6_copy_4 : decode cX6_copy 4 = .ok (.ifCond .eq 10, 3) := by decide +kernel
theorem dX6_copy_7 : decode cX6_copy 7 = .ok (.iload_n 3, 1) := by decide +kernel
theorem dX6_copy_8 : decode cX6_copy 8 = .ok (.invokestatic 75, 3) := by decide +kernel
theorem dX6_copy_11 : decode cX6_copy 11 = .ok (.ifCond .ne 6, 3) := by decide +kernel
theorem dX6_copy_14 : decode cX6_copy 14 = .ok (.ldc 83, 2) := by decide +kernel
theorem dX6_copy_16 : decode cX6_copy 16 = .ok (.ireturn, 1) := by decide +kernel
theorem dX6_copy_17 : decode cX6_copy 17 = .ok (.aload_n 0, 1) := by decide +kernel
theorem dX6_copy_18 : decode cX6_copy 18 = .ok (.getfield 11, 3) := by decide +kernel
theorem dX6_copy_21 : decode cX6_copy 21 = .ok (.iload_n 1, 1) := by decide +kernel
theorem dX6_copy_22 : decode cX6_copy 22 = .ok (.aaload, 1) := by decide +kernel
theorem dX6_copy_23 : decode cX6_copy 23 = .ok (.astore 6, 2) := by decide +kernel
theorem dX6_copy_25 : decode cX6_copy 25 = .ok (.aload_n 0, 1) := by decide +kernel
theorem dX6_copy_26 : decode cX6_copy 26 = .ok (.getfield 11, 3) := by decide +kernel
theorem dX6_copy_29 : decode cX6_copy 29 = .ok (.iload_n 3, 1) := by decide +kernel
theorem dX6_copy_30 : decode cX6_copy 30 = .ok (.aaload, 1) := by decide +kernel
theorem dX6_copy_31 : decode cX6_copy 31 = .ok (.astore 7, 2) := by decide +kernel
theorem dX6_copy_33 : decode cX6_copy 33 = .ok (.aload 6, 2) := by decide +kernel
theorem dX6_copy_35 : decode cX6_copy 35 = .ok (.invokevirtual 105, 3) := by decide +kernel
theorem dX6_copy_38 : decode cX6_copy 38 = .ok (.ifCond .ne 11, 3) := by decide +kernel
theorem dX6_copy_41 : decode cX6_copy 41 = .ok (.aload 7, 2) := by decide +kernel
theorem dX6_copy_43 : decode cX6_copy 43 = .ok (.invokevirtual 105, 3) := by decide +kernel
theorem dX6_copy_46 : decode cX6_copy 46 = .ok (.ifCond .eq 9, 3) := by decide +kernel
theorem dX6_copy_49 : decode cX6_copy 49 = .ok (.aload_n 0, 1) := by decide +kernel
theorem dX6_copy_50 : decode cX6_copy 50 = .ok (.iconst 1, 1) := by decide +kernel
theorem dX6_copy_51 : decode cX6_copy 51 = .ok (.invokevirtual 84, 3) := by decide +kernel
theorem dX6_copy_54 : decode cX6_copy 54 = .ok (.ireturn, 1) := by decide +kernel
theorem dX6_copy_55 : decode cX6_copy 55 = .ok (.aload 6, 2) := by decide +kernel
theorem dX6_copy_57 : decode cX6_copy 57 = .ok (.getfield 109, 3) := by decide +kernel
theorem dX6_copy_60 : decode cX6_copy 60 = .ok (.aload 7, 2) := by decide +kernel
theorem dX6_copy_62 : decode cX6_copy 62 = .ok (.getfield 109, 3) := by decide +kernel
theorem dX6_copy_65 : decode cX6_copy 65 = .ok (.if_icmp .eq 9, 3) := by decide +kernel
theorem dX6_copy_68 : decode cX6_copy 68 = .ok (.aload_n 0, 1) := by decide +kernel
theorem dX6_copy_69 : decode cX6_copy 69 = .ok (.iconst 5, 1) := by decide +kernel
theorem dX6_copy_70 : decode cX6_copy 70 = .ok (.invokevirtual 84, 3) := by decide +kernel
theorem dX6_copy_73 : decode cX6_copy 73 = .ok (.ireturn, 1) := by decide +kernel
theorem dX6_copy_74 : decode cX6_copy 74 = .ok (.aload 6, 2) := by decide +kernel
theorem dX6_copy_76 : decode cX6_copy 76 = .ok (.iload_n 2, 1) := by decide +kernel
theorem dX6_copy_77 : decode cX6_copy 77 = .ok (.iload 5, 2) := by decide +kernel
theorem dX6_copy_79 : decode cX6_copy 79 = .ok (.invokevirtual 112, 3) := by decide +kernel
theorem dX6_copy_82 : decode cX6_copy 82 = .ok (.ifCond .eq 15, 3) := by decide +kernel
theorem dX6_copy_85 : decode cX6_copy 85 = .ok (.aload 7, 2) := by decide +kernel
theorem dX6_copy_87 : decode cX6_copy 87 = .ok (.iload 4, 2) := by decide +kernel
theorem dX6_copy_89 : decode cX6_copy 89 = .ok (.iload 5, 2) := by decide +kernel
theorem dX6_copy_91 : decode cX6_copy 91 = .ok (.invokevirtual 112, 3) := by decide +kernel
theorem dX6_copy_94 : decode cX6_copy 94 = .ok (.ifCond .ne 9, 3) := by decide +kernel
theorem dX6_copy_97 : decode cX6_copy 97 = .ok (.aload_n 0, 1) := by decide +kernel
theorem dX6_copy_98 : decode cX6_copy 98 = .ok (.iconst 2, 1) := by decide +kernel
theorem dX6_copy_99 : decode cX6_copy 99 = .ok (.invokevirtual 84, 3) := by decide +kernel
theorem dX6_copy_102 : decode cX6_copy 102 = .ok (.ireturn, 1) := by decide +kernel
theorem dX6_copy_103 : decode cX6_copy 103 = .ok (.aload 6, 2) := by decide +kernel
theorem dX6_copy_105 : decode cX6_copy 105 = .ok (.getfield 99, 3) := by decide +kernel
theorem dX6_copy_108 : decode cX6_copy 108 = .ok (.iload_n 2, 1) := by decide +kernel
theorem dX6_copy_109 : decode cX6_copy 109 = .ok (.aload 7, 2) := by decide +kernel
theorem dX6_copy_111 : decode cX6_copy 111 = .ok (.getfield 99, 3) := by decide +kernel
theorem dX6_copy_114 : decode cX6_copy 114 = .ok (.iload 4, 2) := by decide +kernel
theorem dX6_copy_116 : decode cX6_copy 116 = .ok (.iload 5, 2) := by decide +kernel
theorem dX6_copy_118 : decode cX6_copy 118 = .ok (.invokestatic 116, 3) := by decide +kernel
theorem dX6_copy_121 : decode cX6_copy 121 = .ok (.aload_n 0, 1) := by decide +kernel
theorem dX6_copy_122 : decode cX6_copy 122 = .ok (.iload 5, 2) := by decide +kernel
theorem dX6_copy_124 : decode cX6_copy 124 = .ok (.invokevirtual 92, 3) := by decide +kernel
theorem dX6_copy_127 : decode cX6_copy 127 = .ok (.ireturn, 1) := by decide +kernel
theorem dX6_drop_0 : decode cX6_drop 0 = .ok (.iload_n 1, 1) := by decide +kernel
theorem dX6_drop_1 : decode cX6_drop 1 = .ok (.invokestatic 75, 3) := by decide +kernel
theorem dX6_drop_4 : decode cX6_drop 4 = .ok (.ifCond .ne 6, 3) := by decide +kernel
theorem dX6_drop_7 : decode cX6_drop 7 = .ok (.ldc 83, 2) := by decide +kernel
theorem dX6_drop_9 : decode cX6_drop 9 = .ok (.ireturn, 1) := by decide +kernel
theorem dX6_drop_10 : decode cX6_drop 10 = .ok (.aload_n 0, 1) := by decide +kernel
theorem dX6_drop_11 : decode cX6_drop 11 = .ok (.getfield 11, 3) := by decide +kernel
theorem dX6_drop_14 : decode cX6_drop 14 = .ok (.iload_n 1, 1) := by decide +kernel
theorem dX6_drop_15 : decode cX6_drop 15 = .ok (.aaload, 1) := by decide +kernel
theorem dX6_drop_16 : decode cX6_drop 16 = .ok (.astore_n 2, 1) := by decide +kernel
theorem dX6_drop_17 : decode cX6_drop 17 = .ok (.aload_n 2, 1) := by decide +kernel
theorem dX6_drop_18 : decode cX6_drop 18 = .ok (.invokevirtual 105, 3) := by decide +kernel
theorem dX6_drop_21 : decode cX6_drop 21 = .ok (.ifCond .eq 9, 3) := by decide +kernel
theorem dX6_drop_24 : decode cX6_drop 24 = .ok (.aload_n 0, 1) := by decide +kernel
theorem dX6_drop_25 : decode cX6_drop 25 = .ok (.iconst 1, 1) := by decide +kernel
theorem dX6_drop_26 : decode cX6_drop 26 = .ok (.invokevirtual 84, 3) := by decide +kernel
theorem dX6_drop_29 : decode cX6_drop 29 = .ok (.ireturn, 1) := by decide +kernel
theorem dX6_drop_30 : decode cX6_drop 30 = .ok (.aload_n 2, 1) := by decide +kernel
theorem dX6_drop_31 : decode cX6_drop 31 = .ok (.getfield 122, 3) := by decide +kernel
theorem dX6_drop_34 : decode cX6_drop 34 = .ok (.istore_n 3, 1) := by decide +kernel
theorem dX6_drop_35 : decode cX6_drop 35 = .ok (.aload_n 2, 1) := by decide +kernel
theorem dX6_drop_36 : decode cX6_drop 36 = .ok (.iconst (-1), 1) := by decide +kernel
theorem dX6_drop_37 : decode cX6_drop 37 = .ok (.iconst 0, 1) := by decide +kernel
theorem dX6_drop_38 : decode cX6_drop 38 = .ok (.invokevirtual 88, 3) := by decide +kernel
theorem dX6_drop_41 : decode cX6_drop 41 = .ok (.aload_n 0, 1) := by decide +kernel
theorem dX6_drop_42 : decode cX6_drop 42 = .ok (.iload_n 3, 1) := by decide +kernel
theorem dX6_drop_43 : decode cX6_drop 43 = .ok (.invokevirtual 92, 3) := by decide +kernel
theorem dX6_drop_46 : decode cX6_drop 46 = .ok (.ireturn, 1) := by decide +kernel
theorem dX6_feed_0 : decode cX6_feed 0 = .ok (.iload_n 1, 1) := by decide +kernel
theorem dX6_feed_1 : decode cX6_feed 1 = .ok (.iconst 0, 1) := by decide +kernel
theorem dX6_feed_2 : decode cX6_feed 2 = .ok (.sipush 255, 3) := by decide +kernel
theorem dX6_feed_5 : decode cX6_feed 5 = .ok (.invokestatic 79, 3) := by decide +kernel
theorem dX6_feed_8 : decode cX6_feed 8 = .ok (.ifCond .ne 6, 3) := by decide +kernel
theorem dX6_feed_11 : decode cX6_feed 11 = .ok (.ldc 83, 2) := by decide +kernel
theorem dX6_feed_13 : decode cX6_feed 13 = .ok (.ireturn, 1) := by decide +kernel
theorem dX6_feed_14 : decode cX6_feed 14 = .ok (.aload_n 0, 1) := by decide +kernel
theorem dX6_feed_15 : decode cX6_feed 15 = .ok (.getfield 18, 3) := by decide +kernel
theorem dX6_feed_18 : decode cX6_feed 18 = .ok (.getfield 125, 3) := by decide +kernel
theorem dX6_feed_21 : decode cX6_feed 21 = .ok (.sipush 130, 3) := by decide +kernel
theorem dX6_feed_24 : decode cX6_feed 24 = .ok (.if_icmp .lt 6, 3) := by decide +kernel
theorem dX6_feed_27 : decode cX6_feed 27 = .ok (.ldc 128, 2) := by decide +kernel
theorem dX6_feed_29 : decode cX6_feed 29 = .ok (.ireturn, 1) := by decide +kernel
theorem dX6_feed_30 : decode cX6_feed 30 = .ok (.aload_n 0, 1) := by decide +kernel
theorem dX6_feed_31 : decode cX6_feed 31 = .ok (.getfield 18, 3) := by decide +kernel
theorem dX6_feed_34 : decode cX6_feed 34 = .ok (.getfield 129, 3) := by decide +kernel
theorem dX6_feed_37 : decode cX6_feed 37 = .ok (.aload_n 0, 1) := by decide +kernel
theorem dX6_feed_38 : decode cX6_feed 38 = .ok (.getfield 18, 3) := by decide +kernel
theorem dX6_feed_41 : decode cX6_feed 41 = .ok (.getfield 125, 3) := by decide +kernel
theorem dX6_feed_44 : decode cX6_feed 44 = .ok (.iload_n 1, 1) := by decide +kernel
theorem dX6_feed_45 : decode cX6_feed 45 = .ok (.iastore, 1) := by decide +kernel
theorem dX6_feed_46 : decode cX6_feed 46 = .ok (.aload_n 0, 1) := by decide +kernel
theorem dX6_feed_47 : decode cX6_feed 47 = .ok (.getfield 18, 3) := by decide +kernel
theorem dX6_feed_50 : decode cX6_feed 50 = .ok (.dup, 1) := by decide +kernel
theorem dX6_feed_51 : decode cX6_feed 51 = .ok (.getfield 125, 3) := by decide +kernel
theorem dX6_feed_54 : decode cX6_feed 54 = .ok (.iconst 1, 1) := by decide +kernel
theorem dX6_feed_55 : decode cX6_feed 55 = .ok (.iadd, 1) := by decide +kernel
theorem dX6_feed_56 : decode cX6_feed 56 = .ok (.putfield 125, 3) := by decide +kernel
theorem dX6_feed_59 : decode cX6_feed 59 = .ok (.aload_n 0, 1) := by decide +kernel
theorem dX6_feed_60 : decode cX6_feed 60 = .ok (.getfield 18, 3) := by decide +kernel
theorem dX6_feed_63 : decode cX6_feed 63 = .ok (.getfield 125, 3) := by decide +kernel
theorem dX6_feed_66 : decode cX6_feed 66 = .ok (.ireturn, 1) := by decide +kernel
theorem dX6_sheet_0 : decode cX6_sheet 0 = .ok (.aload_n 0, 1) := by decide +kernel
theorem dX6_sheet_1 : decode cX6_sheet 1 = .ok (.getfield 18, 3) := by decide +kernel
theorem dX6_sheet_4 : decode cX6_sheet 4 = .ok (.aload_n 0, 1) := by decide +kernel
theorem dX6_sheet_5 : decode cX6_sheet 5 = .ok (.getfield 29, 3) := by decide +kernel
theorem dX6_sheet_8 : decode cX6_sheet 8 = .ok (.invokevirtual 132, 3) := by decide +kernel
theorem dX6_sheet_11 : decode cX6_sheet 11 = .ok (.istore_n 1, 1) := by decide +kernel
theorem dX6_sheet_12 : decode cX6_sheet 12 = .ok (.aload_n 0, 1) := by decide +kernel
theorem dX6_sheet_13 : decode cX6_sheet 13 = .ok (.getfield 18, 3) := by decide +kernel
theorem dX6_sheet_16 : decode cX6_sheet 16 = .ok (.iconst 0, 1) := by decide +kernel
theorem dX6_sheet_17 : decode cX6_sheet 17 = .ok (.putfield 125, 3) := by decide +kernel
theorem dX6_sheet_20 : decode cX6_sheet 20 = .ok (.iload_n 1, 1) := by decide +kernel
theorem dX6_sheet_21 : decode cX6_sheet 21 = .ok (.ifCond .eq 19, 3) := by decide +kernel
theorem dX6_sheet_24 : decode cX6_sheet 24 = .ok (.aload_n 0, 1) := by decide +kernel
theorem dX6_sheet_25 : decode cX6_sheet 25 = .ok (.iload_n 1, 1) := by decide +kernel
theorem dX6_sheet_26 : decode cX6_sheet 26 = .ok (.putfield 71, 3) := by decide +kernel
theorem dX6_sheet_29 : decode cX6_sheet 29 = .ok (.ldc 136, 2) := by decide +kernel
theorem dX6_sheet_31 : decode cX6_sheet 31 = .ok (.aload_n 0, 1) := by decide +kernel
theorem dX6_sheet_32 : decode cX6_sheet 32 = .ok (.getfield 18, 3) := by decide +kernel
theorem dX6_sheet_35 : decode cX6_sheet 35 = .ok (.getfield 137, 3) := by decide +kernel
theorem dX6_sheet_38 : decode cX6_sheet 38 = .ok (.isub, 1) := by decide +kernel
theorem dX6_sheet_39 : decode cX6_sheet 39 = .ok (.ireturn, 1) := by decide +kernel
theorem dX6_sheet_40 : decode cX6_sheet 40 = .ok (.aload_n 0, 1) := by decide +kernel
theorem dX6_sheet_41 : decode cX6_sheet 41 = .ok (.getfield 25, 3) := by decide +kernel
theorem dX6_sheet_44 : decode cX6_sheet 44 = .ok (.aload_n 0, 1) := by decide +kernel
theorem dX6_sheet_45 : decode cX6_sheet 45 = .ok (.getfield 29, 3) := by decide +kernel
theorem dX6_sheet_48 : decode cX6_sheet 48 = .ok (.invokevirtual 140, 3) := by decide +kernel
theorem dX6_sheet_51 : decode cX6_sheet 51 = .ok (.aload_n 0, 1) := by decide +kernel
theorem dX6_sheet_52 : decode cX6_sheet 52 = .ok (.getfield 39, 3) := by decide +kernel
theorem dX6_sheet_55 : decode cX6_sheet 55 = .ok (.invokevirtual 143, 3) := by decide +kernel
theorem dX6_sheet_58 : decode cX6_sheet 58 = .ok (.aload_n 0, 1) := by decide +kernel
theorem dX6_sheet_59 : decode cX6_sheet 59 = .ok (.getfield 25, 3) := by decide +kernel
theorem dX6_sheet_62 : decode cX6_sheet 62 = .ok (.getfield 146, 3) := by decide +kernel
theorem dX6_sheet_65 : decode cX6_sheet 65 = .ok (.ireturn, 1) := by decide +kernel
theorem dX6_fault_0 : decode cX6_fault 0 = .ok (.aload_n 0, 1) := by decide +kernel
theorem dX6_fault_1 : decode cX6_fault 1 = .ok (.getfield 71, 3) := by decide +kernel
theorem dX6_fault_4 : decode cX6_fault 4 = .ok (.ireturn, 1) := by decide +kernel
theorem dX6_undo_0 : decode cX6_undo 0 = .ok (.aload_n 0, 1) := by decide +kernel
theorem dX6_undo_1 : decode cX6_undo 1 = .ok (.getfield 39, 3) := by decide +kernel
theorem dX6_undo_4 : decode cX6_undo 4 = .ok (.getfield 147, 3) := by decide +kernel
theorem dX6_undo_7 : decode cX6_undo 7 = .ok (.ifCond .ne 6, 3) := by decide +kernel
theorem dX6_undo_10 : decode cX6_undo 10 = .ok (.ldc 148, 2) := by decide +kernel
theorem dX6_undo_12 : decode cX6_undo 12 = .ok (.ireturn, 1) := by decide +kernel
theorem dX6_undo_13 : decode cX6_undo 13 = .ok (.aload_n 0, 1) := by decide +kernel
theorem dX6_undo_14 : decode cX6_undo 14 = .ok (.getfield 39, 3) := by decide +kernel
theorem dX6_undo_17 : decode cX6_undo 17 = .ok (.aload_n 0, 1) := by decide +kernel
theorem dX6_undo_18 : decode cX6_undo 18 = .ok (.getfield 25, 3) := by decide +kernel
theorem dX6_undo_21 : decode cX6_undo 21 = .ok (.invokevirtual 149, 3) := by decide +kernel
theorem dX6_undo_24 : decode cX6_undo 24 = .ok (.aload_n 0, 1) := by decide +kernel
theorem dX6_undo_25 : decode cX6_undo 25 = .ok (.getfield 39, 3) := by decide +kernel
theorem dX6_undo_28 : decode cX6_undo 28 = .ok (.getfield 147, 3) := by decide +kernel
theorem dX6_undo_31 : decode cX6_undo 31 = .ok (.ireturn, 1) := by decide +kernel
theorem dX6_put_0 : decode cX6_put 0 = .ok (.aload_n 0, 1) := by decide +kernel
theorem dX6_put_1 : decode cX6_put 1 = .ok (.getfield 25, 3) := by decide +kernel
theorem dX6_put_4 : decode cX6_put 4 = .ok (.invokevirtual 152, 3) := by decide +kernel
theorem dX6_put_7 : decode cX6_put 7 = .ok (.ifCond .eq 6, 3) := by decide +kernel
theorem dX6_put_10 : decode cX6_put 10 = .ok (.ldc 148, 2) := by decide +kernel
theorem dX6_put_12 : decode cX6_put 12 = .ok (.ireturn, 1) := by decide +kernel
theorem dX6_put_13 : decode cX6_put 13 = .ok (.iload_n 1, 1) := by decide +kernel
theorem dX6_put_14 : decode cX6_put 14 = .ok (.iconst 0, 1) := by decide +kernel
theorem dX6_put_15 : decode cX6_put 15 = .ok (.aload_n 0, 1) := by decide +kernel
theorem dX6_put_16 : decode cX6_put 16 = .ok (.getfield 25, 3) := by decide +kernel
theorem dX6_put_19 : decode cX6_put 19 = .ok (.getfield 146, 3) := by decide +kernel
theorem dX6_put_22 : decode cX6_put 22 = .ok (.invokestatic 79, 3) := by decide +kernel
theorem dX6_put_25 : decode cX6_put 25 = .ok (.ifCond .eq 13, 3) := by decide +kernel
theorem dX6_put_28 : decode cX6_put 28 = .ok (.iload_n 2, 1) := by decide +kernel
theorem dX6_put_29 : decode cX6_put 29 = .ok (.iload_n 3, 1) := by decide +kernel
theorem dX6_put_30 : decode cX6_put 30 = .ok (.iload 4, 2) := by decide +kernel
theorem dX6_put_32 : decode cX6_put 32 = .ok (.invokestatic 155, 3) := by decide +kernel
theorem dX6_put_35 : decode cX6_put 35 = .ok (.ifCond .ne 6, 3) := by decide +kernel
theorem dX6_put_38 : decode cX6_put 38 = .ok (.ldc 83, 2) := by decide +kernel
theorem dX6_put_40 : decode cX6_put 40 = .ok (.ireturn, 1) := by decide +kernel
theorem dX6_put_41 : decode cX6_put 41 = .ok (.aload_n 0, 1) := by decide +kernel
theorem dX6_put_42 : decode cX6_put 42 = .ok (.getfield 25, 3) := by decide +kernel
theorem dX6_put_45 : decode cX6_put 45 = .ok (.getfield 146, 3) := by decide +kernel
theorem dX6_put_48 : decode cX6_put 48 = .ok (.bipush 24, 2) := by decide +kernel
theorem dX6_put_50 : decode cX6_put 50 = .ok (.if_icmp .lt 6, 3) := by decide +kernel
theorem dX6_put_53 : decode cX6_put 53 = .ok (.ldc 128, 2) := by decide +kernel
theorem dX6_put_55 : decode cX6_put 55 = .ok (.ireturn, 1) := by decide +kernel
theorem dX6_put_56 : decode cX6_put 56 = .ok (.aload_n 0, 1) := by decide +kernel
theorem dX6_put_57 : decode cX6_put 57 = .ok (.getfield 25, 3) := by decide +kernel
theorem dX6_put_60 : decode cX6_put 60 = .ok (.iload_n 1, 1) := by decide +kernel
theorem dX6_put_61 : decode cX6_put 61 = .ok (.iload_n 2, 1) := by decide +kernel
theorem dX6_put_62 : decode cX6_put 62 = .ok (.iload_n 3, 1) := by decide +kernel
theorem dX6_put_63 : decode cX6_put 63 = .ok (.iload 4, 2) := by decide +kernel
theorem dX6_put_65 : decode cX6_put 65 = .ok (.invokevirtual 158, 3) := by decide +kernel
theorem dX6_put_68 : decode cX6_put 68 = .ok (.aload_n 0, 1) := by decide +kernel
theorem dX6_put_69 : decode cX6_put 69 = .ok (.getfield 39, 3) := by decide +kernel
theorem dX6_put_72 : decode cX6_put 72 = .ok (.iconst 0, 1) := by decide +kernel
theorem dX6_put_73 : decode cX6_put 73 = .ok (.iload_n 1, 1) := by decide +kernel
theorem dX6_put_74 : decode cX6_put 74 = .ok (.iload_n 1, 1) := by decide +kernel
theorem dX6_put_75 : decode cX6_put 75 = .ok (.iload_n 2, 1) := by decide +kernel
theorem dX6_put_76 : decode cX6_put 76 = .ok (.iload_n 3, 1) := by decide +kernel
theorem dX6_put_77 : decode cX6_put 77 = .ok (.iload 4, 2) := by decide +kernel
theorem dX6_put_79 : decode cX6_put 79 = .ok (.invokevirtual 162, 3) := by decide +kernel
theorem dX6_put_82 : decode cX6_put 82 = .ok (.aload_n 0, 1) := by decide +kernel
theorem dX6_put_83 : decode cX6_put 83 = .ok (.getfield 25, 3) := by decide +kernel
theorem dX6_put_86 : decode cX6_put 86 = .ok (.getfield 146, 3) := by decide +kernel
theorem dX6_put_89 : decode cX6_put 89 = .ok (.ireturn, 1) := by decide +kernel
theorem dX6_take_0 : decode cX6_take 0 = .ok (.aload_n 0, 1) := by decide +kernel
theorem dX6_take_1 : decode cX6_take 1 = .ok (.getfield 25, 3) := by decide +kernel
theorem dX6_take_4 : decode cX6_take 4 = .ok (.iload_n 1, 1) := by decide +kernel
theorem dX6_take_5 : decode cX6_take 5 = .ok (.invokevirtual 166, 3) := by decide +kernel
theorem dX6_take_8 : decode cX6_take 8 = .ok (.ifCond .ne 6, 3) := by decide +kernel
theorem dX6_take_11 : decode cX6_take 11 = .ok (.ldc 83, 2) := by decide +kernel
theorem dX6_take_13 : decode cX6_take 13 = .ok (.ireturn, 1) := by decide +kernel
theorem dX6_take_14 : decode cX6_take 14 = .ok (.aload_n 0, 1) := by decide +kernel
theorem dX6_take_15 : decode cX6_take 15 = .ok (.getfield 25, 3) := by decide +kernel
theorem dX6_take_18 : decode cX6_take 18 = .ok (.getfield 146, 3) := by decide +kernel
theorem dX6_take_21 : decode cX6_take 21 = .ok (.iconst 1, 1) := by decide +kernel
theorem dX6_take_22 : decode cX6_take 22 = .ok (.if_icmp .ne 6, 3) := by decide +kernel
theorem dX6_take_25 : decode cX6_take 25 = .ok (.ldc 148, 2) := by decide +kernel
theorem dX6_take_27 : decode cX6_take 27 = .ok (.ireturn, 1) := by decide +kernel
theorem dX6_take_28 : decode cX6_take 28 = .ok (.aload_n 0, 1) := by decide +kernel
theorem dX6_take_29 : decode cX6_take 29 = .ok (.iconst 1, 1) := by decide +kernel
theorem dX6_take_30 : decode cX6_take 30 = .ok (.iload_n 1, 1) := by decide +kernel
theorem dX6_take_31 : decode cX6_take 31 = .ok (.iload_n 1, 1) := by decide +kernel
theorem dX6_take_32 : decode cX6_take 32 = .ok (.invokevirtual 169, 3) := by decide +kernel
theorem dX6_take_35 : decode cX6_take 35 = .ok (.aload_n 0, 1) := by decide +kernel
theorem dX6_take_36 : decode cX6_take 36 = .ok (.getfield 25, 3) := by decide +kernel
theorem dX6_take_39 : decode cX6_take 39 = .ok (.iload_n 1, 1) := by decide +kernel
theorem dX6_take_40 : decode cX6_take 40 = .ok (.invokevirtual 173, 3) := by decide +kernel
theorem dX6_take_43 : decode cX6_take 43 = .ok (.aload_n 0, 1) := by decide +kernel
theorem dX6_take_44 : decode cX6_take 44 = .ok (.getfield 25, 3) := by decide +kernel
theorem dX6_take_47 : decode cX6_take 47 = .ok (.getfield 146, 3) := by decide +kernel
theorem dX6_take_50 : decode cX6_take 50 = .ok (.ireturn, 1) := by decide +kernel
theorem dX6_move_0 : decode cX6_move 0 = .ok (.aload_n 0, 1) := by decide +kernel
theorem dX6_move_1 : decode cX6_move 1 = .ok (.getfield 25, 3) := by decide +kernel
theorem dX6_move_4 : decode cX6_move 4 = .ok (.iload_n 1, 1) := by decide +kernel
theorem dX6_move_5 : decode cX6_move 5 = .ok (.invokevirtual 166, 3) := by decide +kernel
theorem dX6_move_8 : decode cX6_move 8 = .ok (.ifCond .eq 14, 3) := by decide +kernel
theorem dX6_move_11 : decode cX6_move 11 = .ok (.aload_n 0, 1) := by decide +kernel
theorem dX6_move_12 : decode cX6_move 12 = .ok (.getfield 25, 3) := by decide +kernel
theorem dX6_move_15 : decode cX6_move 15 = .ok (.iload_n 2, 1) := by decide +kernel
theorem dX6_move_16 : decode cX6_move 16 = .ok (.invokevirtual 166, 3) := by decide +kernel
theorem dX6_move_19 : decode cX6_move 19 = .ok (.ifCond .ne 6, 3) := by decide +kernel
theorem dX6_move_22 : decode cX6_move 22 = .ok (.ldc 83, 2) := by decide +kernel
theorem dX6_move_24 : decode cX6_move 24 = .ok (.ireturn, 1) := by decide +kernel
theorem dX6_move_25 : decode cX6_move 25 = .ok (.iload_n 1, 1) := by decide +kernel
theorem dX6_move_26 : decode cX6_move 26 = .ok (.iload_n 2, 1) := by decide +kernel
theorem dX6_move_27 : decode cX6_move 27 = .ok (.if_icmp .ne 6, 3) := by decide +kernel
theorem dX6_move_30 : decode cX6_move 30 = .ok (.ldc 148, 2) := by decide +kernel
theorem dX6_move_32 : decode cX6_move 32 = .ok (.ireturn, 1) := by decide +kernel
theorem dX6_move_33 : decode cX6_move 33 = .ok (.aload_n 0, 1) := by decide +kernel
theorem dX6_move_34 : decode cX6_move 34 = .ok (.iconst 2, 1) := by decide +kernel
theorem dX6_move_35 : decode cX6_move 35 = .ok (.iload_n 1, 1) := by decide +kernel
theorem dX6_move_36 : decode cX6_move 36 = .ok (.iload_n 2, 1) := by decide +kernel
theorem dX6_move_37 : decode cX6_move 37 = .ok (.invokevirtual 169, 3) := by decide +kernel
theorem dX6_move_40 : decode cX6_move 40 = .ok (.aload_n 0, 1) := by decide +kernel
theorem dX6_move_41 : decode cX6_move 41 = .ok (.getfield 25, 3) := by decide +kernel
theorem dX6_move_44 : decode cX6_move 44 = .ok (.iload_n 1, 1) := by decide +kernel
theorem dX6_move_45 : decode cX6_move 45 = .ok (.iload_n 2, 1) := by decide +kernel
theorem dX6_move_46 : decode cX6_move 46 = .ok (.invokevirtual 177, 3) := by decide +kernel
theorem dX6_move_49 : decode cX6_move 49 = .ok (.aload_n 0, 1) := by decide +kernel
theorem dX6_move_50 : decode cX6_move 50 = .ok (.getfield 25, 3) := by decide +kernel
theorem dX6_move_53 : decode cX6_move 53 = .ok (.getfield 180, 3) := by decide +kernel
theorem dX6_move_56 : decode cX6_move 56 = .ok (.iload_n 2, 1) := by decide +kernel
theorem dX6_move_57 : decode cX6_move 57 = .ok (.iaload, 1) := by decide +kernel
theorem dX6_move_58 : decode cX6_move 58 = .ok (.ireturn, 1) := by decide +kernel
theorem dX6_change_0 : decode cX6_change 0 = .ok (.aload_n 0, 1) := by decide +kernel
theorem dX6_change_1 : decode cX6_change 1 = .ok (.getfield 25, 3) := by decide +kernel
theorem dX6_change_4 : decode cX6_change 4 = .ok (.iload_n 1, 1) := by decide +kernel
theorem dX6_change_5 : decode cX6_change 5 = .ok (.invokevirtual 166, 3) := by decide +kernel
theorem dX6_change_8 : decode cX6_change 8 = .ok (.ifCond .eq 13, 3) := by decide +kernel
theorem dX6_change_11 : decode cX6_change 11 = .ok (.iload_n 2, 1) := by decide +kernel
theorem dX6_change_12 : decode cX6_change 12 = .ok (.iload_n 3, 1) := by decide +kernel
theorem dX6_change_13 : decode cX6_change 13 = .ok (.iload 4, 2) := by decide +kernel
theorem dX6_change_15 : decode cX6_change 15 = .ok (.invokestatic 155, 3) := by decide +kernel
theorem dX6_change_18 : decode cX6_change 18 = .ok (.ifCond .ne 6, 3) := by decide +kernel
theorem dX6_change_21 : decode cX6_change 21 = .ok (.ldc 83, 2) := by decide +kernel
theorem dX6_change_23 : decode cX6_change 23 = .ok (.ireturn, 1) := by decide +kernel
theorem dX6_change_24 : decode cX6_change 24 = .ok (.aload_n 0, 1) := by decide +kernel
theorem dX6_change_25 : decode cX6_change 25 = .ok (.getfield 25, 3) := by decide +kernel
theorem dX6_change_28 : decode cX6_change 28 = .ok (.getfield 183, 3) := by decide +kernel
theorem dX6_change_31 : decode cX6_change 31 = .ok (.iload_n 1, 1) := by decide +kernel
theorem dX6_change_32 : decode cX6_change 32 = .ok (.iaload, 1) := by decide +kernel
theorem dX6_change_33 : decode cX6_change 33 = .ok (.istore 5, 2) := by decide +kernel
theorem dX6_change_35 : decode cX6_change 35 = .ok (.aload_n 0, 1) := by decide +kernel
theorem dX6_change_36 : decode cX6_change 36 = .ok (.iconst 3, 1) := by decide +kernel
theorem dX6_change_37 : decode cX6_change 37 = .ok (.iload_n 1, 1) := by decide +kernel
theorem dX6_change_38 : decode cX6_change 38 = .ok (.iload_n 1, 1) := by decide +kernel
theorem dX6_change_39 : decode cX6_change 39 = .ok (.invokevirtual 169, 3) := by decide +kernel
theorem dX6_change_42 : decode cX6_change 42 = .ok (.aload_n 0, 1) := by decide +kernel
theorem dX6_change_43 : decode cX6_change 43 = .ok (.getfield 25, 3) := by decide +kernel
theorem dX6_change_46 : decode cX6_change 46 = .ok (.iload_n 1, 1) := by decide +kernel
theorem dX6_change_47 : decode cX6_change 47 = .ok (.iload_n 2, 1) := by decide +kernel
theorem dX6_change_48 : decode cX6_change 48 = .ok (.iload_n 3, 1) := by decide +kernel
theorem dX6_change_49 : decode cX6_change 49 = .ok (.iload 4, 2) := by decide +kernel
theorem dX6_change_51 : decode cX6_change 51 = .ok (.invokevirtual 186, 3) := by decide +kernel
theorem dX6_change_54 : decode cX6_change 54 = .ok (.iload 5, 2) := by decide +kernel
theorem dX6_change_56 : decode cX6_change 56 = .ok (.ireturn, 1) := by decide +kernel
theorem dX6_style_0 : decode cX6_style 0 = .ok (.aload_n 0, 1) := by decide +kernel
theorem dX6_style_1 : decode cX6_style 1 = .ok (.getfield 25, 3) := by decide +kernel
theorem dX6_style_4 : decode cX6_style 4 = .ok (.invokevirtual 152, 3) := by decide +kernel
theorem dX6_style_7 : decode cX6_style 7 = .ok (.ifCond .eq 6, 3) := by decide +kernel
theorem dX6_style_10 : decode cX6_style 10 = .ok (.ldc 148, 2) := by decide +kernel
theorem dX6_style_12 : decode cX6_style 12 = .ok (.ireturn, 1) := by decide +kernel
theorem dX6_style_13 : decode cX6_style 13 = .ok (.iload_n 1, 1) := by decide +kernel
theorem dX6_style_14 : decode cX6_style 14 = .ok (.invokestatic 189, 3) := by decide +kernel
theorem dX6_style_17 : decode cX6_style 17 = .ok (.ifCond .eq 12, 3) := by decide +kernel
theorem dX6_style_20 : decode cX6_style 20 = .ok (.iload_n 2, 1) := by decide +kernel
theorem dX6_style_21 : decode cX6_style 21 = .ok (.iconst 0, 1) := by decide +kernel
theorem dX6_style_22 : decode cX6_style 22 = .ok (.iconst 3, 1) := by decide +kernel
theorem dX6_style_23 : decode cX6_style 23 = .ok (.invokestatic 79, 3) := by decide +kernel
theorem dX6_style_26 : decode cX6_style 26 = .ok (.ifCond .ne 6, 3) := by decide +kernel
theorem dX6_style_29 : decode cX6_style 29 = .ok (.ldc 83, 2) := by decide +kernel
theorem dX6_style_31 : decode cX6_style 31 = .ok (.ireturn, 1) := by decide +kernel
theorem dX6_style_32 : decode cX6_style 32 = .ok (.aload_n 0, 1) := by decide +kernel
theorem dX6_style_33 : decode cX6_style 33 = .ok (.getfield 25, 3) := by decide +kernel
theorem dX6_style_36 : decode cX6_style 36 = .ok (.getfield 192, 3) := by decide +kernel
theorem dX6_style_39 : decode cX6_style 39 = .ok (.iload_n 1, 1) := by decide +kernel
theorem dX6_style_40 : decode cX6_style 40 = .ok (.iaload, 1) := by decide +kernel
theorem dX6_style_41 : decode cX6_style 41 = .ok (.istore_n 3, 1) := by decide +kernel
theorem dX6_style_42 : decode cX6_style 42 = .ok (.aload_n 0, 1) := by decide +kernel
theorem dX6_style_43 : decode cX6_style 43 = .ok (.getfield 39, 3) := by decide +kernel
theorem dX6_style_46 : decode cX6_style 46 = .ok (.iconst 4, 1) := by decide +kernel
theorem dX6_style_47 : decode cX6_style 47 = .ok (.iload_n 1, 1) := by decide +kernel
theorem dX6_style_48 : decode cX6_style 48 = .ok (.iload_n 3, 1) := by decide +kernel
theorem dX6_style_49 : decode cX6_style 49 = .ok (.iconst 0, 1) := by decide +kernel
theorem dX6_style_50 : decode cX6_style 50 = .ok (.iconst 0, 1) := by decide +kernel
theorem dX6_style_51 : decode cX6_style 51 = .ok (.iconst 0, 1) := by decide +kernel
theorem dX6_style_52 : decode cX6_style 52 = .ok (.invokevirtual 162, 3) := by decide +kernel
theorem dX6_style_55 : decode cX6_style 55 = .ok (.aload_n 0, 1) := by decide +kernel
theorem dX6_style_56 : decode cX6_style 56 = .ok (.getfield 25, 3) := by decide +kernel
theorem dX6_style_59 : decode cX6_style 59 = .ok (.getfield 192, 3) := by decide +kernel
theorem dX6_style_62 : decode cX6_style 62 = .ok (.iload_n 1, 1) := by decide +kernel
theorem dX6_style_63 : decode cX6_style 63 = .ok (.iload_n 2, 1) := by decide +kernel
theorem dX6_style_64 : decode cX6_style 64 = .ok (.iastore, 1) := by decide +kernel
theorem dX6_style_65 : decode cX6_style 65 = .ok (.iload_n 3, 1) := by decide +kernel
theorem dX6_style_66 : decode cX6_style 66 = .ok (.ireturn, 1) := by decide +kernel
theorem dX6_paragraph_0 : decode cX6_paragraph 0 = .ok (.aload_n 0, 1) := by decide +kernel
theorem dX6_paragraph_1 : decode cX6_paragraph 1 = .ok (.getfield 25, 3) := by decide +kernel
theorem dX6_paragraph_4 : decode cX6_paragraph 4 = .ok (.iload_n 1, 1) := by decide +kernel
theorem dX6_paragraph_5 : decode cX6_paragraph 5 = .ok (.invokevirtual 166, 3) := by decide +kernel
theorem dX6_paragraph_8 : decode cX6_paragraph 8 = .ok (.ifCond .eq 12, 3) := by decide +kernel
theorem dX6_paragraph_11 : decode cX6_paragraph 11 = .ok (.iload_n 2, 1) := by decide +kernel
theorem dX6_paragraph_12 : decode cX6_paragraph 12 = .ok (.iconst 0, 1) := by decide +kernel
theorem dX6_paragraph_13 : decode cX6_paragraph 13 = .ok (.iconst 5, 1) := by decide +kernel
theorem dX6_paragraph_14 : decode cX6_paragraph 14 = .ok (.invokestatic 79, 3) := by decide +kernel
theorem dX6_paragraph_17 : decode cX6_paragraph 17 = .ok (.ifCond .ne 6, 3) := by decide +kernel
theorem dX6_paragraph_20 : decode cX6_paragraph 20 = .ok (.ldc 83, 2) := by decide +kernel
theorem dX6_paragraph_22 : decode cX6_paragraph 22 = .ok (.ireturn, 1) := by decide +kernel
theorem dX6_paragraph_23 : decode cX6_paragraph 23 = .ok (.iload_n 2, 1) := by decide +kernel
theorem dX6_paragraph_24 : decode cX6_paragraph 24 = .ok (.ifCond .ne 13, 3) := by decide +kernel
theorem dX6_paragraph_27 : decode cX6_paragraph 27 = .ok (.aload_n 0, 1) := by decide +kernel
theorem dX6_paragraph_28 : decode cX6_paragraph 28 = .ok (.getfield 25, 3) := by decide +kernel
theorem dX6_paragraph_31 : decode cX6_paragraph 31 = .ok (.getfield 180, 3) := by decide +kernel
theorem dX6_paragraph_34 : decode cX6_paragraph 34 = .ok (.iload_n 1, 1) := by decide +kernel
theorem dX6_paragraph_35 : decode cX6_paragraph 35 = .ok (.iaload, 1) := by decide +kernel
theorem dX6_paragraph_36 : decode cX6_paragraph 36 = .ok (.ireturn, 1) := by decide +kernel
theorem dX6_paragraph_37 : decode cX6_paragraph 37 = .ok (.iload_n 2, 1) := by decide +kernel
theorem dX6_paragraph_38 : decode cX6_paragraph 38 = .ok (.iconst 1, 1) := by decide +kernel
theorem dX6_paragraph_39 : decode cX6_paragraph 39 = .ok (.if_icmp .ne 13, 3) := by decide +kernel
theorem dX6_paragraph_42 : decode cX6_paragraph 42 = .ok (.aload_n 0, 1) := by decide +kernel
theorem dX6_paragraph_43 : decode cX6_paragraph 43 = .ok (.getfield 25, 3) := by decide +kernel
theorem dX6_paragraph_46 : decode cX6_paragraph 46 = .ok (.getfield 195, 3) := by decide +kernel
theorem dX6_paragraph_49 : decode cX6_paragraph 49 = .ok (.iload_n 1, 1) := by decide +kernel
theorem dX6_paragraph_50 : decode cX6_paragraph 50 = .ok (.iaload, 1) := by decide +kernel
theorem dX6_paragraph_51 : decode cX6_paragraph 51 = .ok (.ireturn, 1) := by decide +kernel
theorem dX6_paragraph_52 : decode cX6_paragraph 52 = .ok (.iload_n 2, 1) := by decide +kernel
theorem dX6_paragraph_53 : decode cX6_paragraph 53 = .ok (.iconst 5, 1) := by decide +kernel
theorem dX6_paragraph_54 : decode cX6_paragraph 54 = .ok (.if_icmp .ge 16, 3) := by decide +kernel
theorem dX6_paragraph_57 : decode cX6_paragraph 57 = .ok (.aload_n 0, 1) := by decide +kernel
theorem dX6_paragraph_58 : decode cX6_paragraph 58 = .ok (.getfield 25, 3) := by decide +kernel
theorem dX6_paragraph_61 : decode cX6_paragraph 61 = .ok (.iload_n 1, 1) := by decide +kernel
theorem dX6_paragraph_62 : decode cX6_paragraph 62 = .ok (.invokevirtual 198, 3) := by decide +kernel
theorem dX6_paragraph_65 : decode cX6_paragraph 65 = .ok (.iload_n 2, 1) := by decide +kernel
theorem dX6_paragraph_66 : decode cX6_paragraph 66 = .ok (.iconst 2, 1) := by decide +kernel
theorem dX6_paragraph_67 : decode cX6_paragraph 67 = .ok (.isub, 1) := by decide +kernel
theorem dX6_paragraph_68 : decode cX6_paragraph 68 = .ok (.iaload, 1) := by decide +kernel
theorem dX6_paragraph_69 : decode cX6_paragraph 69 = .ok (.ireturn, 1) := by decide +kernel
theorem dX6_paragraph_70 : decode cX6_paragraph 70 = .ok (.aload_n 0, 1) := by decide +kernel
theorem dX6_paragraph_71 : decode cX6_paragraph 71 = .ok (.getfield 25, 3) := by decide +kernel
theorem dX6_paragraph_74 : decode cX6_paragraph 74 = .ok (.iload_n 1, 1) := by decide +kernel
theorem dX6_paragraph_75 : decode cX6_paragraph 75 = .ok (.iconst 0, 1) := by decide +kernel
theorem dX6_paragraph_76 : decode cX6_paragraph 76 = .ok (.aload_n 0, 1) := by decide +kernel
theorem dX6_paragraph_77 : decode cX6_paragraph 77 = .ok (.getfield 50, 3) := by decide +kernel
theorem dX6_paragraph_80 : decode cX6_paragraph 80 = .ok (.invokevirtual 202, 3) := by decide +kernel
theorem dX6_paragraph_83 : decode cX6_paragraph 83 = .ok (.aload_n 0, 1) := by decide +kernel
theorem dX6_paragraph_84 : decode cX6_paragraph 84 = .ok (.getfield 50, 3) := by decide +kernel
theorem dX6_paragraph_87 : decode cX6_paragraph 87 = .ok (.getfield 206, 3) := by decide +kernel
theorem dX6_paragraph_90 : decode cX6_paragraph 90 = .ok (.ireturn, 1) := by decide +kernel
theorem dX6_label_0 : decode cX6_label 0 = .ok (.aload_n 0, 1) := by decide +kernel
theorem dX6_label_1 : decode cX6_label 1 = .ok (.getfield 25, 3) := by decide +kernel
theorem dX6_label_4 : decode cX6_label 4 = .ok (.iload_n 1, 1) := by decide +kernel
theorem dX6_label_5 : decode cX6_label 5 = .ok (.invokevirtual 166, 3) := by decide +kernel
theorem dX6_label_8 : decode cX6_label 8 = .ok (.ifCond .eq 14, 3) := by decide +kernel
theorem dX6_label_11 : decode cX6_label 11 = .ok (.iload_n 2, 1) := by decide +kernel
theorem dX6_label_12 : decode cX6_label 12 = .ok (.invokestatic 189, 3) := by decide +kernel
theorem dX6_label_15 : decode cX6_label 15 = .ok (.ifCond .eq 7, 3) := by decide +kernel
theorem dX6_label_18 : decode cX6_label 18 = .ok (.iload_n 3, 1) := by decide +kernel
theorem dX6_label_19 : decode cX6_label 19 = .ok (.ifCond .ge 6, 3) := by decide +kernel
theorem dX6_label_22 : decode cX6_label 22 = .ok (.ldc 83, 2) := by decide +kernel
theorem dX6_label_24 : decode cX6_label 24 = .ok (.ireturn, 1) := by decide +kernel
theorem dX6_label_25 : decode cX6_label 25 = .ok (.aload_n 0, 1) := by decide +kernel
theorem dX6_label_26 : decode cX6_label 26 = .ok (.iload_n 1, 1) := by decide +kernel
theorem dX6_label_27 : decode cX6_label 27 = .ok (.iload_n 2, 1) := by decide +kernel
theorem dX6_label_28 : decode cX6_label 28 = .ok (.iload_n 3, 1) := by decide +kernel
theorem dX6_label_29 : decode cX6_label 29 = .ok (.invokevirtual 207, 3) := by decide +kernel
theorem dX6_label_32 : decode cX6_label 32 = .ok (.ireturn, 1) := by decide +kernel
theorem dX6_called_0 : decode cX6_called 0 = .ok (.aload_n 0, 1) := by decide +kernel
theorem dX6_called_1 : decode cX6_called 1 = .ok (.getfield 25, 3) := by decide +kernel
theorem dX6_called_4 : decode cX6_called 4 = .ok (.iload_n 1, 1) := by decide +kernel
theorem dX6_called_5 : decode cX6_called 5 = .ok (.invokevirtual 166, 3) := by decide +kernel
theorem dX6_called_8 : decode cX6_called 8 = .ok (.ifCond .eq 18, 3) := by decide +kernel
theorem dX6_called_11 : decode cX6_called 11 = .ok (.aload_n 0, 1) := by decide +kernel
theorem dX6_called_12 : decode cX6_called 12 = .ok (.getfield 25, 3) := by decide +kernel
theorem dX6_called_15 : decode cX6_called 15 = .ok (.iload_n 2, 1) := by decide +kernel
theorem dX6_called_16 : decode cX6_called 16 = .ok (.invokevirtual 166, 3) := by decide +kernel
theorem dX6_called_19 : decode cX6_called 19 = .ok (.ifCond .eq 7, 3) := by decide +kernel
theorem dX6_called_22 : decode cX6_called 22 = .ok (.iload_n 3, 1) := by decide +kernel
theorem dX6_called_23 : decode cX6_called 23 = .ok (.ifCond .ge 6, 3) := by decide +kernel
theorem dX6_called_26 : decode cX6_called 26 = .ok (.ldc 83, 2) := by decide +kernel
theorem dX6_called_28 : decode cX6_called 28 = .ok (.ireturn, 1) := by decide +kernel
theorem dX6_called_29 : decode cX6_called 29 = .ok (.aload_n 0, 1) := by decide +kernel
theorem dX6_called_30 : decode cX6_called 30 = .ok (.getfield 25, 3) := by decide +kernel
theorem dX6_called_33 : decode cX6_called 33 = .ok (.iload_n 1, 1) := by decide +kernel
theorem dX6_called_34 : decode cX6_called 34 = .ok (.invokevirtual 198, 3) := by decide +kernel
theorem dX6_called_37 : decode cX6_called 37 = .ok (.astore 4, 2) := by decide +kernel
theorem dX6_called_39 : decode cX6_called 39 = .ok (.aload_n 0, 1) := by decide +kernel
theorem dX6_called_40 : decode cX6_called 40 = .ok (.getfield 25, 3) := by decide +kernel
theorem dX6_called_43 : decode cX6_called 43 = .ok (.iload_n 2, 1) := by decide +kernel
theorem dX6_called_44 : decode cX6_called 44 = .ok (.invokevirtual 198, 3) := by decide +kernel
theorem dX6_called_47 : decode cX6_called 47 = .ok (.astore 5, 2) := by decide +kernel
theorem dX6_called_49 : decode cX6_called 49 = .ok (.aload_n 0, 1) := by decide +kernel
theorem dX6_called_50 : decode cX6_called 50 = .ok (.getfield 25, 3) := by decide +kernel
theorem dX6_called_53 : decode cX6_called 53 = .ok (.getfield 180, 3) := by decide +kernel
theorem dX6_called_56 : decode cX6_called 56 = .ok (.iload_n 1, 1) := by decide +kernel
theorem dX6_called_57 : decode cX6_called 57 = .ok (.iaload, 1) := by decide +kernel
theorem dX6_called_58 : decode cX6_called 58 = .ok (.istore 6, 2) := by decide +kernel
theorem dX6_called_60 : decode cX6_called 60 = .ok (.iconst 0, 1) := by decide +kernel
theorem dX6_called_61 : decode cX6_called 61 = .ok (.istore 7, 2) := by decide +kernel
theorem dX6_called_63 : decode cX6_called 63 = .ok (.iload 7, 2) := by decide +kernel
theorem dX6_called_65 : decode cX6_called 65 = .ok (.iload 6, 2) := by decide +kernel
theorem dX6_called_67 : decode cX6_called 67 = .ok (.if_icmp .ge 22, 3) := by decide +kernel
theorem dX6_called_70 : decode cX6_called 70 = .ok (.aload 4, 2) := by decide +kernel
theorem dX6_called_72 : decode cX6_called 72 = .ok (.iload 7, 2) := by decide +kernel
theorem dX6_called_74 : decode cX6_called 74 = .ok (.iaload, 1) := by decide +kernel
theorem dX6_called_75 : decode cX6_called 75 = .ok (.aload 5, 2) := by decide +kernel
theorem dX6_called_77 : decode cX6_called 77 = .ok (.iload 7, 2) := by decide +kernel
theorem dX6_called_79 : decode cX6_called 79 = .ok (.iaload, 1) := by decide +kernel
theorem dX6_called_80 : decode cX6_called 80 = .ok (.if_icmp .ne 9, 3) := by decide +kernel
theorem dX6_called_83 : decode cX6_called 83 = .ok (.iinc 7 1, 3) := by decide +kernel
theorem dX6_called_86 : decode cX6_called 86 = .ok (.goto (-23), 3) := by decide +kernel
theorem dX6_called_89 : decode cX6_called 89 = .ok (.aload_n 0, 1) := by decide +kernel
theorem dX6_called_90 : decode cX6_called 90 = .ok (.iload_n 1, 1) := by decide +kernel
theorem dX6_called_91 : decode cX6_called 91 = .ok (.iload 7, 2) := by decide +kernel
theorem dX6_called_93 : decode cX6_called 93 = .ok (.iload_n 3, 1) := by decide +kernel
theorem dX6_called_94 : decode cX6_called 94 = .ok (.invokevirtual 207, 3) := by decide +kernel
theorem dX6_called_97 : decode cX6_called 97 = .ok (.ireturn, 1) := by decide +kernel
theorem dX6_span_0 : decode cX6_span 0 = .ok (.aload_n 0, 1) := by decide +kernel
theorem dX6_span_1 : decode cX6_span 1 = .ok (.getfield 25, 3) := by decide +kernel
theorem dX6_span_4 : decode cX6_span 4 = .ok (.iload_n 1, 1) := by decide +kernel
theorem dX6_span_5 : decode cX6_span 5 = .ok (.invokevirtual 166, 3) := by decide +kernel
theorem dX6_span_8 : decode cX6_span 8 = .ok (.ifCond .eq 38, 3) := by decide +kernel
theorem dX6_span_11 : decode cX6_span 11 = .ok (.aload_n 0, 1) := by decide +kernel
theorem dX6_span_12 : decode cX6_span 12 = .ok (.getfield 25, 3) := by decide +kernel
theorem dX6_span_15 : decode cX6_span 15 = .ok (.iload_n 2, 1) := by decide +kernel
theorem dX6_span_16 : decode cX6_span 16 = .ok (.invokevirtual 166, 3) := by decide +kernel
theorem dX6_span_19 : decode cX6_span 19 = .ok (.ifCond .eq 27, 3) := by decide +kernel
theorem dX6_span_22 : decode cX6_span 22 = .ok (.iload_n 1, 1) := by decide +kernel
theorem dX6_span_23 : decode cX6_span 23 = .ok (.iload_n 2, 1) := by decide +kernel
theorem dX6_span_24 : decode cX6_span 24 = .ok (.if_icmp .gt 22, 3) := by decide +kernel
theorem dX6_span_27 : decode cX6_span 27 = .ok (.iload_n 3, 1) := by decide +kernel
theorem dX6_span_28 : decode cX6_span 28 = .ok (.iconst 0, 1) := by decide +kernel
theorem dX6_span_29 : decode cX6_span 29 = .ok (.iconst 5, 1) := by decide +kernel
theorem dX6_span_30 : decode cX6_span 30 = .ok (.invokestatic 79, 3) := by decide +kernel
theorem dX6_span_33 : decode cX6_span 33 = .ok (.ifCond .eq 13, 3) := by decide +kernel
theorem dX6_span_36 : decode cX6_span 36 = .ok (.iload 4, 2) := by decide +kernel
theorem dX6_span_38 : decode cX6_span 38 = .ok (.iconst 0, 1) := by decide +kernel
theorem dX6_span_39 : decode cX6_span 39 = .ok (.iconst 1, 1) := by decide +kernel
theorem dX6_span_40 : decode cX6_span 40 = .ok (.invokestatic 79, 3) := by decide +kernel
theorem dX6_span_43 : decode cX6_span 43 = .ok (.ifCond .ne 6, 3) := by decide +kernel
theorem dX6_span_46 : decode cX6_span 46 = .ok (.ldc 83, 2) := by decide +kernel
theorem dX6_span_48 : decode cX6_span 48 = .ok (.ireturn, 1) := by decide +kernel
theorem dX6_span_49 : decode cX6_span 49 = .ok (.aload_n 0, 1) := by decide +kernel
theorem dX6_span_50 : decode cX6_span 50 = .ok (.getfield 54, 3) := by decide +kernel
theorem dX6_span_53 : decode cX6_span 53 = .ok (.invokestatic 211, 3) := by decide +kernel
theorem dX6_span_56 : decode cX6_span 56 = .ok (.iload_n 1, 1) := by decide +kernel
theorem dX6_span_57 : decode cX6_span 57 = .ok (.istore 5, 2) := by decide +kernel
theorem dX6_span_59 : decode cX6_span 59 = .ok (.iload 5, 2) := by decide +kernel
theorem dX6_span_61 : decode cX6_span 61 = .ok (.iload_n 2, 1) := by decide +kernel
theorem dX6_span_62 : decode cX6_span 62 = .ok (.if_icmp .gt 22, 3) := by decide +kernel
theorem dX6_span_65 : decode cX6_span 65 = .ok (.aload_n 0, 1) := by decide +kernel
theorem dX6_span_66 : decode cX6_span 66 = .ok (.getfield 25, 3) := by decide +kernel
theorem dX6_span_69 : decode cX6_span 69 = .ok (.iload 5, 2) := by decide +kernel
theorem dX6_span_71 : decode cX6_span 71 = .ok (.aload_n 0, 1) := by decide +kernel
theorem dX6_span_72 : decode cX6_span 72 = .ok (.getfield 54, 3) := by decide +kernel
theorem dX6_span_75 : decode cX6_span 75 = .ok (.invokevirtual 217, 3) := by decide +kernel
theorem dX6_span_78 : decode cX6_span 78 = .ok (.iinc 5 1, 3) := by decide +kernel
theorem dX6_span_81 : decode cX6_span 81 = .ok (.goto (-22), 3) := by decide +kernel
theorem dX6_span_84 : decode cX6_span 84 = .ok (.iload 4, 2) := by decide +kernel
theorem dX6_span_86 : decode cX6_span 86 = .ok (.ifCond .ne 15, 3) := by decide +kernel
theorem dX6_span_89 : decode cX6_span 89 = .ok (.aload_n 0, 1) := by decide +kernel
theorem dX6_span_90 : decode cX6_span 90 = .ok (.getfield 54, 3) := by decide +kernel
theorem dX6_span_93 : decode cX6_span 93 = .ok (.iload_n 3, 1) := by decide +kernel
theorem dX6_span_94 : decode cX6_span 94 = .ok (.iaload, 1) := by decide +kernel
theorem dX6_span_95 : decode cX6_span 95 = .ok (.invokestatic 221, 3) := by decide +kernel
theorem dX6_span_98 : decode cX6_span 98 = .ok (.goto 12, 3) := by decide +kernel
theorem dX6_span_101 : decode cX6_span 101 = .ok (.aload_n 0, 1) := by decide +kernel
theorem dX6_span_102 : decode cX6_span 102 = .ok (.getfield 54, 3) := by decide +kernel
theorem dX6_span_105 : decode cX6_span 105 = .ok (.iload_n 3, 1) := by decide +kernel
theorem dX6_span_106 : decode cX6_span 106 = .ok (.iaload, 1) := by decide +kernel
theorem dX6_span_107 : decode cX6_span 107 = .ok (.invokestatic 224, 3) := by decide +kernel
theorem dX6_span_110 : decode cX6_span 110 = .ok (.ireturn, 1) := by decide +kernel
theorem dX6_register_0 : decode cX6_register 0 = .ok (.aload_n 0, 1) := by decide +kernel
theorem dX6_register_1 : decode cX6_register 1 = .ok (.getfield 25, 3) := by decide +kernel
theorem dX6_register_4 : decode cX6_register 4 = .ok (.invokevirtual 152, 3) := by decide +kernel
theorem dX6_register_7 : decode cX6_register 7 = .ok (.ifCond .eq 6, 3) := by decide +kernel
theorem dX6_register_10 : decode cX6_register 10 = .ok (.ldc 148, 2) := by decide +kernel
theorem dX6_register_12 : decode cX6_register 12 = .ok (.ireturn, 1) := by decide +kernel
theorem dX6_register_13 : decode cX6_register 13 = .ok (.iload_n 1, 1) := by decide +kernel
theorem dX6_register_14 : decode cX6_register 14 = .ok (.ifCond .ge 6, 3) := by decide +kernel
theorem dX6_register_17 : decode cX6_register 17 = .ok (.ldc 83, 2) := by decide +kernel
theorem dX6_register_19 : decode cX6_register 19 = .ok (.ireturn, 1) := by decide +kernel
theorem dX6_register_20 : decode cX6_register 20 = .ok (.iconst 0, 1) := by decide +kernel
theorem dX6_register_21 : decode cX6_register 21 = .ok (.istore_n 2, 1) := by decide +kernel
theorem dX6_register_22 : decode cX6_register 22 = .ok (.iload_n 2, 1) := by decide +kernel
theorem dX6_register_23 : decode cX6_register 23 = .ok (.aload_n 0, 1) := by decide +kernel
theorem dX6_register_24 : decode cX6_register 24 = .ok (.getfield 25, 3) := by decide +kernel
theorem dX6_register_27 : decode cX6_register 27 = .ok (.getfield 146, 3) := by decide +kernel
theorem dX6_register_30 : decode cX6_register 30 = .ok (.if_icmp .ge 24, 3) := by decide +kernel
theorem dX6_register_33 : decode cX6_register 33 = .ok (.aload_n 0, 1) := by decide +kernel
theorem dX6_register_34 : decode cX6_register 34 = .ok (.getfield 25, 3) := by decide +kernel
theorem dX6_register_37 : decode cX6_register 37 = .ok (.iload_n 2, 1) := by decide +kernel
theorem dX6_register_38 : decode cX6_register 38 = .ok (.iconst 0, 1) := by decide +kernel
theorem dX6_register_39 : decode cX6_register 39 = .ok (.aload_n 0, 1) := by decide +kernel
theorem dX6_register_40 : decode cX6_register 40 = .ok (.getfield 45, 3) := by decide +kernel
theorem dX6_register_43 : decode cX6_register 43 = .ok (.iload_n 2, 1) := by decide +kernel
theorem dX6_register_44 : decode cX6_register 44 = .ok (.aaload, 1) := by decide +kernel
theorem dX6_register_45 : decode cX6_register 45 = .ok (.invokevirtual 202, 3) := by decide +kernel
theorem dX6_register_48 : decode cX6_register 48 = .ok (.iinc 2 1, 3) := by decide +kernel
theorem dX6_register_51 : decode cX6_register 51 = .ok (.goto (-29), 3) := by decide +kernel
theorem dX6_register_54 : decode cX6_register 54 = .ok (.iconst 0, 1) := by decide +kernel
theorem dX6_register_55 : decode cX6_register 55 = .ok (.istore_n 2, 1) := by decide +kernel
theorem dX6_register_56 : decode cX6_register 56 = .ok (.iload_n 2, 1) := by decide +kernel
theorem dX6_register_57 : decode cX6_register 57 = .ok (.aload_n 0, 1) := by decide +kernel
theorem dX6_register_58 : decode cX6_register 58 = .ok (.getfield 25, 3) := by decide +kernel
theorem dX6_register_61 : decode cX6_register 61 = .ok (.getfield 146, 3) := by decide +kernel
theorem dX6_register_64 : decode cX6_register 64 = .ok (.if_icmp .ge 31, 3) := by decide +kernel
theorem dX6_register_67 : decode cX6_register 67 = .ok (.aload_n 0, 1) := by decide +kernel
theorem dX6_register_68 : decode cX6_register 68 = .ok (.getfield 25, 3) := by decide +kernel
theorem dX6_register_71 : decode cX6_register 71 = .ok (.iload_n 2, 1) := by decide +kernel
theorem dX6_register_72 : decode cX6_register 72 = .ok (.invokevirtual 227, 3) := by decide +kernel
theorem dX6_register_75 : decode cX6_register 75 = .ok (.ifCond .eq 14, 3) := by decide +kernel
theorem dX6_register_78 : decode cX6_register 78 = .ok (.aload_n 0, 1) := by decide +kernel
theorem dX6_register_79 : decode cX6_register 79 = .ok (.iload_n 2, 1) := by decide +kernel
theorem dX6_register_80 : decode cX6_register 80 = .ok (.invokevirtual 230, 3) := by decide +kernel
theorem dX6_register_83 : decode cX6_register 83 = .ok (.iload_n 1, 1) := by decide +kernel
theorem dX6_register_84 : decode cX6_register 84 = .ok (.if_icmp .ne 5, 3) := by decide +kernel
theorem dX6_register_87 : decode cX6_register 87 = .ok (.iload_n 2, 1) := by decide +kernel
theorem dX6_register_88 : decode cX6_register 88 = .ok (.ireturn, 1) := by decide +kernel
theorem dX6_register_89 : decode cX6_register 89 = .ok (.iinc 2 1, 3) := by decide +kernel
theorem dX6_register_92 : decode cX6_register 92 = .ok (.goto (-36), 3) := by decide +kernel
theorem dX6_register_95 : decode cX6_register 95 = .ok (.ldc 233, 2) := by decide +kernel
theorem dX6_register_97 : decode cX6_register 97 = .ok (.ireturn, 1) := by decide +kernel
theorem dX6_bears_0 : decode cX6_bears 0 = .ok (.aload_n 0, 1) := by decide +kernel
theorem dX6_bears_1 : decode cX6_bears 1 = .ok (.getfield 25, 3) := by decide +kernel
theorem dX6_bears_4 : decode cX6_bears 4 = .ok (.invokevirtual 152, 3) := by decide +kernel
theorem dX6_bears_7 : decode cX6_bears 7 = .ok (.ifCond .eq 6, 3) := by decide +kernel
theorem dX6_bears_10 : decode cX6_bears 10 = .ok (.ldc 148, 2) := by decide +kernel
theorem dX6_bears_12 : decode cX6_bears 12 = .ok (.ireturn, 1) := by decide +kernel
theorem dX6_bears_13 : decode cX6_bears 13 = .ok (.iload_n 1, 1) := by decide +kernel
theorem dX6_bears_14 : decode cX6_bears 14 = .ok (.invokestatic 75, 3) := by decide +kernel
theorem dX6_bears_17 : decode cX6_bears 17 = .ok (.ifCond .eq 13, 3) := by decide +kernel
theorem dX6_bears_20 : decode cX6_bears 20 = .ok (.iload_n 3, 1) := by decide +kernel
theorem dX6_bears_21 : decode cX6_bears 21 = .ok (.iconst 1, 1) := by decide +kernel
theorem dX6_bears_22 : decode cX6_bears 22 = .ok (.bipush 40, 2) := by decide +kernel
theorem dX6_bears_24 : decode cX6_bears 24 = .ok (.invokestatic 79, 3) := by decide +kernel
theorem dX6_bears_27 : decode cX6_bears 27 = .ok (.ifCond .ne 6, 3) := by decide +kernel
theorem dX6_bears_30 : decode cX6_bears 30 = .ok (.ldc 83, 2) := by decide +kernel
theorem dX6_bears_32 : decode cX6_bears 32 = .ok (.ireturn, 1) := by decide +kernel
theorem dX6_bears_33 : decode cX6_bears 33 = .ok (.aload_n 0, 1) := by decide +kernel
theorem dX6_bears_34 : decode cX6_bears 34 = .ok (.getfield 11, 3) := by decide +kernel
theorem dX6_bears_37 : decode cX6_bears 37 = .ok (.iload_n 1, 1) := by decide +kernel
theorem dX6_bears_38 : decode cX6_bears 38 = .ok (.aaload, 1) := by decide +kernel
theorem dX6_bears_39 : decode cX6_bears 39 = .ok (.astore 4, 2) := by decide +kernel
theorem dX6_bears_41 : decode cX6_bears 41 = .ok (.aload 4, 2) := by decide +kernel
theorem dX6_bears_43 : decode cX6_bears 43 = .ok (.iload_n 2, 1) := by decide +kernel
theorem dX6_bears_44 : decode cX6_bears 44 = .ok (.iload_n 3, 1) := by decide +kernel
theorem dX6_bears_45 : decode cX6_bears 45 = .ok (.invokevirtual 95, 3) := by decide +kernel
theorem dX6_bears_48 : decode cX6_bears 48 = .ok (.istore 5, 2) := by decide +kernel
theorem dX6_bears_50 : decode cX6_bears 50 = .ok (.iload 5, 2) := by decide +kernel
theorem dX6_bears_52 : decode cX6_bears 52 = .ok (.ifCond .eq 10, 3) := by decide +kernel
theorem dX6_bears_55 : decode cX6_bears 55 = .ok (.aload_n 0, 1) := by decide +kernel
theorem dX6_bears_56 : decode cX6_bears 56 = .ok (.iload 5, 2) := by decide +kernel
theorem dX6_bears_58 : decode cX6_bears 58 = .ok (.invokevirtual 84, 3) := by decide +kernel
theorem dX6_bears_61 : decode cX6_bears 61 = .ok (.ireturn, 1) := by decide +kernel
theorem dX6_bears_62 : decode cX6_bears 62 = .ok (.iconst 0, 1) := by decide +kernel
theorem dX6_bears_63 : decode cX6_bears 63 = .ok (.istore 6, 2) := by decide +kernel
theorem dX6_bears_65 : decode cX6_bears 65 = .ok (.iload 6, 2) := by decide +kernel
theorem dX6_bears_67 : decode cX6_bears 67 = .ok (.aload_n 0, 1) := by decide +kernel
theorem dX6_bears_68 : decode cX6_bears 68 = .ok (.getfield 25, 3) := by decide +kernel
theorem dX6_bears_71 : decode cX6_bears 71 = .ok (.getfield 146, 3) := by decide +kernel
theorem dX6_bears_74 : decode cX6_bears 74 = .ok (.if_icmp .ge 44, 3) := by decide +kernel
theorem dX6_bears_77 : decode cX6_bears 77 = .ok (.aload_n 0, 1) := by decide +kernel
theorem dX6_bears_78 : decode cX6_bears 78 = .ok (.getfield 25, 3) := by decide +kernel
theorem dX6_bears_81 : decode cX6_bears 81 = .ok (.iload 6, 2) := by decide +kernel
theorem dX6_bears_83 : decode cX6_bears 83 = .ok (.iconst 0, 1) := by decide +kernel
theorem dX6_bears_84 : decode cX6_bears 84 = .ok (.aload_n 0, 1) := by decide +kernel
theorem dX6_bears_85 : decode cX6_bears 85 = .ok (.getfield 50, 3) := by decide +kernel
theorem dX6_bears_88 : decode cX6_bears 88 = .ok (.invokevirtual 202, 3) := by decide +kernel
theorem dX6_bears_91 : decode cX6_bears 91 = .ok (.aload_n 0, 1) := by decide +kernel
theorem dX6_bears_92 : decode cX6_bears 92 = .ok (.getfield 50, 3) := by decide +kernel
theorem dX6_bears_95 : decode cX6_bears 95 = .ok (.aload 4, 2) := by decide +kernel
theorem dX6_bears_97 : decode cX6_bears 97 = .ok (.iload_n 2, 1) := by decide +kernel
theorem dX6_bears_98 : decode cX6_bears 98 = .ok (.iload_n 3, 1) := by decide +kernel
theorem dX6_bears_99 : decode cX6_bears 99 = .ok (.invokevirtual 234, 3) := by decide +kernel
theorem dX6_bears_102 : decode cX6_bears 102 = .ok (.ifCond .eq 10, 3) := by decide +kernel
theorem dX6_bears_105 : decode cX6_bears 105 = .ok (.aload_n 0, 1) := by decide +kernel
theorem dX6_bears_106 : decode cX6_bears 106 = .ok (.iload 6, 2) := by decide +kernel
theorem dX6_bears_108 : decode cX6_bears 108 = .ok (.invokevirtual 92, 3) := by decide +kernel
theorem dX6_bears_111 : decode cX6_bears 111 = .ok (.ireturn, 1) := by decide +kernel
theorem dX6_bears_112 : decode cX6_bears 112 = .ok (.iinc 6 1, 3) := by decide +kernel
theorem dX6_bears_115 : decode cX6_bears 115 = .ok (.goto (-50), 3) := by decide +kernel
theorem dX6_bears_118 : decode cX6_bears 118 = .ok (.aload_n 0, 1) := by decide +kernel
theorem dX6_bears_119 : decode cX6_bears 119 = .ok (.ldc 233, 2) := by decide +kernel
theorem dX6_bears_121 : decode cX6_bears 121 = .ok (.invokevirtual 92, 3) := by decide +kernel
theorem dX6_bears_124 : decode cX6_bears 124 = .ok (.ireturn, 1) := by decide +kernel
theorem dX6_changed_0 : decode cX6_changed 0 = .ok (.aload_n 0, 1) := by decide +kernel
theorem dX6_changed_1 : decode cX6_changed 1 = .ok (.getfield 25, 3) := by decide +kernel
theorem dX6_changed_4 : decode cX6_changed 4 = .ok (.iload_n 1, 1) := by decide +kernel
theorem dX6_changed_5 : decode cX6_changed 5 = .ok (.invokevirtual 166, 3) := by decide +kernel
theorem dX6_changed_8 : decode cX6_changed 8 = .ok (.ifCond .ne 6, 3) := by decide +kernel
theorem dX6_changed_11 : decode cX6_changed 11 = .ok (.ldc 83, 2) := by decide +kernel
theorem dX6_changed_13 : decode cX6_changed 13 = .ok (.ireturn, 1) := by decide +kernel
theorem dX6_changed_14 : decode cX6_changed 14 = .ok (.aload_n 0, 1) := by decide +kernel
theorem dX6_changed_15 : decode cX6_changed 15 = .ok (.getfield 25, 3) := by decide +kernel
theorem dX6_changed_18 : decode cX6_changed 18 = .ok (.getfield 146, 3) := by decide +kernel
theorem dX6_changed_21 : decode cX6_changed 21 = .ok (.iconst 1, 1) := by decide +kernel
theorem dX6_changed_22 : decode cX6_changed 22 = .ok (.if_icmp .ne 6, 3) := by decide +kernel
theorem dX6_changed_25 : decode cX6_changed 25 = .ok (.ldc 148, 2) := by decide +kernel
theorem dX6_changed_27 : decode cX6_changed 27 = .ok (.ireturn, 1) := by decide +kernel
theorem dX6_changed_28 : decode cX6_changed 28 = .ok (.aload_n 0, 1) := by decide +kernel
theorem dX6_changed_29 : decode cX6_changed 29 = .ok (.getfield 29, 3) := by decide +kernel
theorem dX6_changed_32 : decode cX6_changed 32 = .ok (.aload_n 0, 1) := by decide +kernel
theorem dX6_changed_33 : decode cX6_changed 33 = .ok (.getfield 25, 3) := by decide +kernel
theorem dX6_changed_36 : decode cX6_changed 36 = .ok (.invokevirtual 140, 3) := by decide +kernel
theorem dX6_changed_39 : decode cX6_changed 39 = .ok (.aload_n 0, 1) := by decide +kernel
theorem dX6_changed_40 : decode cX6_changed 40 = .ok (.getfield 29, 3) := by decide +kernel
theorem dX6_changed_43 : decode cX6_changed 43 = .ok (.iload_n 1, 1) := by decide +kernel
theorem dX6_changed_44 : decode cX6_changed 44 = .ok (.invokevirtual 173, 3) := by decide +kernel
theorem dX6_changed_47 : decode cX6_changed 47 = .ok (.iconst 0, 1) := by decide +kernel
theorem dX6_changed_48 : decode cX6_changed 48 = .ok (.istore_n 2, 1) := by decide +kernel
theorem dX6_changed_49 : decode cX6_changed 49 = .ok (.iconst 0, 1) := by decide +kernel
theorem dX6_changed_50 : decode cX6_changed 50 = .ok (.istore_n 3, 1) := by decide +kernel
theorem dX6_changed_51 : decode cX6_changed 51 = .ok (.iload_n 3, 1) := by decide +kernel
theorem dX6_changed_52 : decode cX6_changed 52 = .ok (.aload_n 0, 1) := by decide +kernel
theorem dX6_changed_53 : decode cX6_changed 53 = .ok (.getfield 29, 3) := by decide +kernel
theorem dX6_changed_56 : decode cX6_changed 56 = .ok (.getfield 146, 3) := by decide +kernel
theorem dX6_changed_59 : decode cX6_changed 59 = .ok (.if_icmp .ge 67, 3) := by decide +kernel
theorem dX6_changed_62 : decode cX6_changed 62 = .ok (.aload_n 0, 1) := by decide +kernel
theorem dX6_changed_63 : decode cX6_changed 63 = .ok (.getfield 25, 3) := by decide +kernel
theorem dX6_changed_66 : decode cX6_changed 66 = .ok (.iload_n 3, 1) := by decide +kernel
theorem dX6_changed_67 : decode cX6_changed 67 = .ok (.iload_n 1, 1) := by decide +kernel
theorem dX6_changed_68 : decode cX6_changed 68 = .ok (.if_icmp .ge 7, 3) := by decide +kernel
theorem dX6_changed_71 : decode cX6_changed 71 = .ok (.iload_n 3, 1) := by decide +kernel
theorem dX6_changed_72 : decode cX6_changed 72 = .ok (.goto 6, 3) := by decide +kernel
theorem dX6_changed_75 : decode cX6_changed 75 = .ok (.iload_n 3, 1) := by decide +kernel
theorem dX6_changed_76 : decode cX6_changed 76 = .ok (.iconst 1, 1) := by decide +kernel
theorem dX6_changed_77 : decode cX6_changed 77 = .ok (.iadd, 1) := by decide +kernel
theorem dX6_changed_78 : decode cX6_changed 78 = .ok (.iconst 0, 1) := by decide +kernel
theorem dX6_changed_79 : decode cX6_changed 79 = .ok (.aload_n 0, 1) := by decide +kernel
theorem dX6_changed_80 : decode cX6_changed 80 = .ok (.getfield 45, 3) := by decide +kernel
theorem dX6_changed_83 : decode cX6_changed 83 = .ok (.iload_n 3, 1) := by decide +kernel
theorem dX6_changed_84 : decode cX6_changed 84 = .ok (.aaload, 1) := by decide +kernel
theorem dX6_changed_85 : decode cX6_changed 85 = .ok (.invokevirtual 202, 3) := by decide +kernel
theorem dX6_changed_88 : decode cX6_changed 88 = .ok (.aload_n 0, 1) := by decide +kernel
theorem dX6_changed_89 : decode cX6_changed 89 = .ok (.getfield 29, 3) := by decide +kernel
theorem dX6_changed_92 : decode cX6_changed 92 = .ok (.iload_n 3, 1) := by decide +kernel
theorem dX6_changed_93 : decode cX6_changed 93 = .ok (.iconst 0, 1) := by decide +kernel
theorem dX6_changed_94 : decode cX6_changed 94 = .ok (.aload_n 0, 1) := by decide +kernel
theorem dX6_changed_95 : decode cX6_changed 95 = .ok (.getfield 50, 3) := by decide +kernel
theorem dX6_changed_98 : decode cX6_changed 98 = .ok (.invokevirtual 202, 3) := by decide +kernel
theorem dX6_changed_101 : decode cX6_changed 101 = .ok (.aload_n 0, 1) := by decide +kernel
theorem dX6_changed_102 : decode cX6_changed 102 = .ok (.getfield 45, 3) := by decide +kernel
theorem dX6_changed_105 : decode cX6_changed 105 = .ok (.iload_n 3, 1) := by decide +kernel
theorem dX6_changed_106 : decode cX6_changed 106 = .ok (.aaload, 1) := by decide +kernel
theorem dX6_changed_107 : decode cX6_changed 107 = .ok (.aload_n 0, 1) := by decide +kernel
theorem dX6_changed_108 : decode cX6_changed 108 = .ok (.getfield 50, 3) := by decide +kernel
theorem dX6_changed_111 : decode cX6_changed 111 = .ok (.invokevirtual 238, 3) := by decide +kernel
theorem dX6_changed_114 : decode cX6_changed 114 = .ok (.ifCond .eq 6, 3) := by decide +kernel
theorem dX6_changed_117 : decode cX6_changed 117 = .ok (.iinc 2 1, 3) := by decide +kernel
theorem dX6_changed_120 : decode cX6_changed 120 = .ok (.iinc 3 1, 3) := by decide +kernel
theorem dX6_changed_123 : decode cX6_changed 123 = .ok (.goto (-72), 3) := by decide +kernel
theorem dX6_changed_126 : decode cX6_changed 126 = .ok (.iload_n 2, 1) := by decide +kernel
theorem dX6_changed_127 : decode cX6_changed 127 = .ok (.ireturn, 1) := by decide +kernel
theorem dX6_nearest_0 : decode cX6_nearest 0 = .ok (.aload_n 0, 1) := by decide +kernel
theorem dX6_nearest_1 : decode cX6_nearest 1 = .ok (.getfield 25, 3) := by decide +kernel
theorem dX6_nearest_4 : decode cX6_nearest 4 = .ok (.iload_n 1, 1) := by decide +kernel
theorem dX6_nearest_5 : decode cX6_nearest 5 = .ok (.invokevirtual 166, 3) := by decide +kernel
theorem dX6_nearest_8 : decode cX6_nearest 8 = .ok (.ifCond .eq 13, 3) := by decide +kernel
theorem dX6_nearest_11 : decode cX6_nearest 11 = .ok (.iload_n 2, 1) := by decide +kernel
theorem dX6_nearest_12 : decode cX6_nearest 12 = .ok (.iconst 0, 1) := by decide +kernel
theorem dX6_nearest_13 : decode cX6_nearest 13 = .ok (.bipush 99, 2) := by decide +kernel
theorem dX6_nearest_15 : decode cX6_nearest 15 = .ok (.invokestatic 79, 3) := by decide +kernel
theorem dX6_nearest_18 : decode cX6_nearest 18 = .ok (.ifCond .ne 6, 3) := by decide +kernel
theorem dX6_nearest_21 : decode cX6_nearest 21 = .ok (.ldc 83, 2) := by decide +kernel
theorem dX6_nearest_23 : decode cX6_nearest 23 = .ok (.ireturn, 1) := by decide +kernel
theorem dX6_nearest_24 : decode cX6_nearest 24 = .ok (.aload_n 0, 1) := by decide +kernel
theorem dX6_nearest_25 : decode cX6_nearest 25 = .ok (.getfield 25, 3) := by decide +kernel
theorem dX6_nearest_28 : decode cX6_nearest 28 = .ok (.iload_n 1, 1) := by decide +kernel
theorem dX6_nearest_29 : decode cX6_nearest 29 = .ok (.invokevirtual 227, 3) := by decide +kernel
theorem dX6_nearest_32 : decode cX6_nearest 32 = .ok (.ifCond .ne 6, 3) := by decide +kernel
theorem dX6_nearest_35 : decode cX6_nearest 35 = .ok (.ldc 233, 2) := by decide +kernel
theorem dX6_nearest_37 : decode cX6_nearest 37 = .ok (.ireturn, 1) := by decide +kernel
theorem dX6_nearest_38 : decode cX6_nearest 38 = .ok (.aload_n 0, 1) := by decide +kernel
theorem dX6_nearest_39 : decode cX6_nearest 39 = .ok (.getfield 29, 3) := by decide +kernel
theorem dX6_nearest_42 : decode cX6_nearest 42 = .ok (.aload_n 0, 1) := by decide +kernel
theorem dX6_nearest_43 : decode cX6_nearest 43 = .ok (.getfield 25, 3) := by decide +kernel
theorem dX6_nearest_46 : decode cX6_nearest 46 = .ok (.invokevirtual 140, 3) := by decide +kernel
theorem dX6_nearest_49 : decode cX6_nearest 49 = .ok (.aload_n 0, 1) := by decide +kernel
theorem dX6_nearest_50 : decode cX6_nearest 50 = .ok (.getfield 29, 3) := by decide +kernel
theorem dX6_nearest_53 : decode cX6_nearest 53 = .ok (.iload_n 1, 1) := by decide +kernel
theorem dX6_nearest_54 : decode cX6_nearest 54 = .ok (.invokevirtual 173, 3) := by decide +kernel
theorem dX6_nearest_57 : decode cX6_nearest 57 = .ok (.iconst 0, 1) := by decide +kernel
theorem dX6_nearest_58 : decode cX6_nearest 58 = .ok (.istore_n 3, 1) := by decide +kernel
theorem dX6_nearest_59 : decode cX6_nearest 59 = .ok (.iload_n 3, 1) := by decide +kernel
theorem dX6_nearest_60 : decode cX6_nearest 60 = .ok (.aload_n 0, 1) := by decide +kernel
theorem dX6_nearest_61 : decode cX6_nearest 61 = .ok (.getfield 25, 3) := by decide +kernel
theorem dX6_nearest_64 : decode cX6_nearest 64 = .ok (.getfield 146, 3) := by decide +kernel
theorem dX6_nearest_67 : decode cX6_nearest 67 = .ok (.if_icmp .ge 41, 3) := by decide +kernel
theorem dX6_nearest_70 : decode cX6_nearest 70 = .ok (.aload_n 0, 1) := by decide +kernel
theorem dX6_nearest_71 : decode cX6_nearest 71 = .ok (.iload_n 1, 1) := by decide +kernel
theorem dX6_nearest_72 : decode cX6_nearest 72 = .ok (.iload_n 1, 1) := by decide +kernel
theorem dX6_nearest_73 : decode cX6_nearest 73 = .ok (.iload_n 3, 1) := by decide +kernel
theorem dX6_nearest_74 : decode cX6_nearest 74 = .ok (.isub, 1) := by decide +kernel
theorem dX6_nearest_75 : decode cX6_nearest 75 = .ok (.invokevirtual 242, 3) := by decide +kernel
theorem dX6_nearest_78 : decode cX6_nearest 78 = .ok (.iload_n 2, 1) := by decide +kernel
theorem dX6_nearest_79 : decode cX6_nearest 79 = .ok (.if_icmp .ne 7, 3) := by decide +kernel
theorem dX6_nearest_82 : decode cX6_nearest 82 = .ok (.iload_n 1, 1) := by decide +kernel
theorem dX6_nearest_83 : decode cX6_nearest 83 = .ok (.iload_n 3, 1) := by decide +kernel
theorem dX6_nearest_84 : decode cX6_nearest 84 = .ok (.isub, 1) := by decide +kernel
theorem dX6_nearest_85 : decode cX6_nearest 85 = .ok (.ireturn, 1) := by decide +kernel
theorem dX6_nearest_86 : decode cX6_nearest 86 = .ok (.aload_n 0, 1) := by decide +kernel
theorem dX6_nearest_87 : decode cX6_nearest 87 = .ok (.iload_n 1, 1) := by decide +kernel
theorem dX6_nearest_88 : decode cX6_nearest 88 = .ok (.iload_n 1, 1) := by decide +kernel
theorem dX6_nearest_89 : decode cX6_nearest 89 = .ok (.iload_n 3, 1) := by decide +kernel
theorem dX6_nearest_90 : decode cX6_nearest 90 = .ok (.iadd, 1) := by decide +kernel
theorem dX6_nearest_91 : decode cX6_nearest 91 = .ok (.invokevirtual 242, 3) := by decide +kernel
theorem dX6_nearest_94 : decode cX6_nearest 94 = .ok (.iload_n 2, 1) := by decide +kernel
theorem dX6_nearest_95 : decode cX6_nearest 95 = .ok (.if_icmp .ne 7, 3) := by decide +kernel
theorem dX6_nearest_98 : decode cX6_nearest 98 = .ok (.iload_n 1, 1) := by decide +kernel
theorem dX6_nearest_99 : decode cX6_nearest 99 = .ok (.iload_n 3, 1) := by decide +kernel
theorem dX6_nearest_100 : decode cX6_nearest 100 = .ok (.iadd, 1) := by decide +kernel
theorem dX6_nearest_101 : decode cX6_nearest 101 = .ok (.ireturn, 1) := by decide +kernel
theorem dX6_nearest_102 : decode cX6_nearest 102 = .ok (.iinc 3 1, 3) := by decide +kernel
theorem dX6_nearest_105 : decode cX6_nearest 105 = .ok (.goto (-46), 3) := by decide +kernel
theorem dX6_nearest_108 : decode cX6_nearest 108 = .ok (.ldc 233, 2) := by decide +kernel
theorem dX6_nearest_110 : decode cX6_nearest 110 = .ok (.ireturn, 1) := by decide +kernel
theorem dX6_sets_0 : decode cX6_sets 0 = .ok (.aload_n 0, 1) := by decide +kernel
theorem dX6_sets_1 : decode cX6_sets 1 = .ok (.getfield 25, 3) := by decide +kernel
theorem dX6_sets_4 : decode cX6_sets 4 = .ok (.invokevirtual 152, 3) := by decide +kernel
theorem dX6_sets_7 : decode cX6_sets 7 = .ok (.ifCond .eq 6, 3) := by decide +kernel
theorem dX6_sets_10 : decode cX6_sets 10 = .ok (.ldc 148, 2) := by decide +kernel
theorem dX6_sets_12 : decode cX6_sets 12 = .ok (.ireturn, 1) := by decide +kernel
theorem dX6_sets_13 : decode cX6_sets 13 = .ok (.iload_n 1, 1) := by decide +kernel
theorem dX6_sets_14 : decode cX6_sets 14 = .ok (.iconst 0, 1) := by decide +kernel
theorem dX6_sets_15 : decode cX6_sets 15 = .ok (.bipush 99, 2) := by decide +kernel
theorem dX6_sets_17 : decode cX6_sets 17 = .ok (.invokestatic 79, 3) := by decide +kernel
theorem dX6_sets_20 : decode cX6_sets 20 = .ok (.ifCond .ne 6, 3) := by decide +kernel
theorem dX6_sets_23 : decode cX6_sets 23 = .ok (.ldc 83, 2) := by decide +kernel
theorem dX6_sets_25 : decode cX6_sets 25 = .ok (.ireturn, 1) := by decide +kernel
theorem dX6_sets_26 : decode cX6_sets 26 = .ok (.iconst 0, 1) := by decide +kernel
theorem dX6_sets_27 : decode cX6_sets 27 = .ok (.istore_n 2, 1) := by decide +kernel
theorem dX6_sets_28 : decode cX6_sets 28 = .ok (.iconst 0, 1) := by decide +kernel
theorem dX6_sets_29 : decode cX6_sets 29 = .ok (.istore_n 3, 1) := by decide +kernel
theorem dX6_sets_30 : decode cX6_sets 30 = .ok (.iload_n 3, 1) := by decide +kernel
theorem dX6_sets_31 : decode cX6_sets 31 = .ok (.aload_n 0, 1) := by decide +kernel
theorem dX6_sets_32 : decode cX6_sets 32 = .ok (.getfield 25, 3) := by decide +kernel
theorem dX6_sets_35 : decode cX6_sets 35 = .ok (.getfield 146, 3) := by decide +kernel
theorem dX6_sets_38 : decode cX6_sets 38 = .ok (.if_icmp .ge 38, 3) := by decide +kernel
theorem dX6_sets_41 : decode cX6_sets 41 = .ok (.aload_n 0, 1) := by decide +kernel
theorem dX6_sets_42 : decode cX6_sets 42 = .ok (.getfield 25, 3) := by decide +kernel
theorem dX6_sets_45 : decode cX6_sets 45 = .ok (.iload_n 3, 1) := by decide +kernel
theorem dX6_sets_46 : decode cX6_sets 46 = .ok (.invokevirtual 227, 3) := by decide +kernel
theorem dX6_sets_49 : decode cX6_sets 49 = .ok (.ifCond .eq 21, 3) := by decide +kernel
theorem dX6_sets_52 : decode cX6_sets 52 = .ok (.aload_n 0, 1) := by decide +kernel
theorem dX6_sets_53 : decode cX6_sets 53 = .ok (.getfield 25, 3) := by decide +kernel
theorem dX6_sets_56 : decode cX6_sets 56 = .ok (.iload_n 3, 1) := by decide +kernel
theorem dX6_sets_57 : decode cX6_sets 57 = .ok (.invokevirtual 245, 3) := by decide +kernel
theorem dX6_sets_60 : decode cX6_sets 60 = .ok (.iload_n 1, 1) := by decide +kernel
theorem dX6_sets_61 : decode cX6_sets 61 = .ok (.if_icmp .ne 9, 3) := by decide +kernel
theorem dX6_sets_64 : decode cX6_sets 64 = .ok (.iload_n 2, 1) := by decide +kernel
theorem dX6_sets_65 : decode cX6_sets 65 = .ok (.iconst 1, 1) := by decide +kernel
theorem dX6_sets_66 : decode cX6_sets 66 = .ok (.iload_n 3, 1) := by decide +kernel
theorem dX6_sets_67 : decode cX6_sets 67 = .ok (.ishl, 1) := by decide +kernel
theorem dX6_sets_68 : decode cX6_sets 68 = .ok (.ior, 1) := by decide +kernel
theorem dX6_sets_69 : decode cX6_sets 69 = .ok (.istore_n 2, 1) := by decide +kernel
theorem dX6_sets_70 : decode cX6_sets 70 = .ok (.iinc 3 1, 3) := by decide +kernel
theorem dX6_sets_73 : decode cX6_sets 73 = .ok (.goto (-43), 3) := by decide +kernel
theorem dX6_sets_76 : decode cX6_sets 76 = .ok (.iload_n 2, 1) := by decide +kernel
theorem dX6_sets_77 : decode cX6_sets 77 = .ok (.ireturn, 1) := by decide +kernel
theorem dX6_deepest_0 : decode cX6_deepest 0 = .ok (.aload_n 0, 1) := by decide +kernel
theorem dX6_deepest_1 : decode cX6_deepest 1 = .ok (.getfield 25, 3) := by decide +kernel
theorem dX6_deepest_4 : decode cX6_deepest 4 = .ok (.invokevirtual 152, 3) := by decide +kernel
theorem dX6_deepest_7 : decode cX6_deepest 7 = .ok (.ifCond .eq 6, 3) := by decide +kernel
theorem dX6_deepest_10 : decode cX6_deepest 10 = .ok (.ldc 148, 2) := by decide +kernel
theorem dX6_deepest_12 : decode cX6_deepest 12 = .ok (.ireturn, 1) := by decide +kernel
theorem dX6_deepest_13 : decode cX6_deepest 13 = .ok (.iload_n 1, 1) := by decide +kernel
theorem dX6_deepest_14 : decode cX6_deepest 14 = .ok (.iconst 0, 1) := by decide +kernel
theorem dX6_deepest_15 : decode cX6_deepest 15 = .ok (.iconst 1, 1) := by decide +kernel
theorem dX6_deepest_16 : decode cX6_deepest 16 = .ok (.invokestatic 79, 3) := by decide +kernel
theorem dX6_deepest_19 : decode cX6_deepest 19 = .ok (.ifCond .ne 6, 3) := by decide +kernel
theorem dX6_deepest_22 : decode cX6_deepest 22 = .ok (.ldc 83, 2) := by decide +kernel
theorem dX6_deepest_24 : decode cX6_deepest 24 = .ok (.ireturn, 1) := by decide +kernel
theorem dX6_deepest_25 : decode cX6_deepest 25 = .ok (.iconst 0, 1) := by decide +kernel
theorem dX6_deepest_26 : decode cX6_deepest 26 = .ok (.istore_n 2, 1) := by decide +kernel
theorem dX6_deepest_27 : decode cX6_deepest 27 = .ok (.ldc 233, 2) := by decide +kernel
theorem dX6_deepest_29 : decode cX6_deepest 29 = .ok (.istore_n 3, 1) := by decide +kernel
theorem dX6_deepest_30 : decode cX6_deepest 30 = .ok (.iconst 0, 1) := by decide +kernel
theorem dX6_deepest_31 : decode cX6_deepest 31 = .ok (.istore 4, 2) := by decide +kernel
theorem dX6_deepest_33 : decode cX6_deepest 33 = .ok (.iload 4, 2) := by decide +kernel
theorem dX6_deepest_35 : decode cX6_deepest 35 = .ok (.aload_n 0, 1) := by decide +kernel
theorem dX6_deepest_36 : decode cX6_deepest 36 = .ok (.getfield 25, 3) := by decide +kernel
theorem dX6_deepest_39 : decode cX6_deepest 39 = .ok (.getfield 146, 3) := by decide +kernel
theorem dX6_deepest_42 : decode cX6_deepest 42 = .ok (.if_icmp .ge 45, 3) := by decide +kernel
theorem dX6_deepest_45 : decode cX6_deepest 45 = .ok (.aload_n 0, 1) := by decide +kernel
theorem dX6_deepest_46 : decode cX6_deepest 46 = .ok (.getfield 25, 3) := by decide +kernel
theorem dX6_deepest_49 : decode cX6_deepest 49 = .ok (.iload 4, 2) := by decide +kernel
theorem dX6_deepest_51 : decode cX6_deepest 51 = .ok (.iconst 0, 1) := by decide +kernel
theorem dX6_deepest_52 : decode cX6_deepest 52 = .ok (.aload_n 0, 1) := by decide +kernel
theorem dX6_deepest_53 : decode cX6_deepest 53 = .ok (.getfield 50, 3) := by decide +kernel
theorem dX6_deepest_56 : decode cX6_deepest 56 = .ok (.invokevirtual 202, 3) := by decide +kernel
theorem dX6_deepest_59 : decode cX6_deepest 59 = .ok (.aload_n 0, 1) := by decide +kernel
theorem dX6_deepest_60 : decode cX6_deepest 60 = .ok (.getfield 50, 3) := by decide +kernel
theorem dX6_deepest_63 : decode cX6_deepest 63 = .ok (.getfield 206, 3) := by decide +kernel
theorem dX6_deepest_66 : decode cX6_deepest 66 = .ok (.iload_n 2, 1) := by decide +kernel
theorem dX6_deepest_67 : decode cX6_deepest 67 = .ok (.if_icmp .le 14, 3) := by decide +kernel
theorem dX6_deepest_70 : decode cX6_deepest 70 = .ok (.aload_n 0, 1) := by decide +kernel
theorem dX6_deepest_71 : decode cX6_deepest 71 = .ok (.getfield 50, 3) := by decide +kernel
theorem dX6_deepest_74 : decode cX6_deepest 74 = .ok (.getfield 206, 3) := by decide +kernel
theorem dX6_deepest_77 : decode cX6_deepest 77 = .ok (.istore_n 2, 1) := by decide +kernel
theorem dX6_deepest_78 : decode cX6_deepest 78 = .ok (.iload 4, 2) := by decide +kernel
theorem dX6_deepest_80 : decode cX6_deepest 80 = .ok (.istore_n 3, 1) := by decide +kernel
theorem dX6_deepest_81 : decode cX6_deepest 81 = .ok (.iinc 4 1, 3) := by decide +kernel
theorem dX6_deepest_84 : decode cX6_deepest 84 = .ok (.goto (-51), 3) := by decide +kernel
theorem dX6_deepest_87 : decode cX6_deepest 87 = .ok (.iload_n 1, 1) := by decide +kernel
theorem dX6_deepest_88 : decode cX6_deepest 88 = .ok (.iconst 1, 1) := by decide +kernel
theorem dX6_deepest_89 : decode cX6_deepest 89 = .ok (.if_icmp .eq 9, 3) := by decide +kernel
theorem dX6_deepest_92 : decode cX6_deepest 92 = .ok (.iload_n 3, 1) := by decide +kernel
theorem dX6_deepest_93 : decode cX6_deepest 93 = .ok (.ldc 233, 2) := by decide +kernel
theorem dX6_deepest_95 : decode cX6_deepest 95 = .ok (.if_icmp .ne 7, 3) := by decide +kernel
theorem dX6_deepest_98 : decode cX6_deepest 98 = .ok (.iload_n 3, 1) := by decide +kernel
theorem dX6_deepest_99 : decode cX6_deepest 99 = .ok (.goto 4, 3) := by decide +kernel
theorem dX6_deepest_102 : decode cX6_deepest 102 = .ok (.iload_n 2, 1) := by decide +kernel
theorem dX6_deepest_103 : decode cX6_deepest 103 = .ok (.ireturn, 1) := by decide +kernel
theorem dX6_who_0 : decode cX6_who 0 = .ok (.aload_n 0, 1) := by decide +kernel
theorem dX6_who_1 : decode cX6_who 1 = .ok (.getfield 25, 3) := by decide +kernel
theorem dX6_who_4 : decode cX6_who 4 = .ok (.iload_n 1, 1) := by decide +kernel
theorem dX6_who_5 : decode cX6_who 5 = .ok (.invokevirtual 166, 3) := by decide +kernel
theorem dX6_who_8 : decode cX6_who 8 = .ok (.ifCond .eq 35, 3) := by decide +kernel
theorem dX6_who_11 : decode cX6_who 11 = .ok (.iload_n 2, 1) := by decide +kernel
theorem dX6_who_12 : decode cX6_who 12 = .ok (.iconst 0, 1) := by decide +kernel
theorem dX6_who_13 : decode cX6_who 13 = .ok (.iconst 2, 1) := by decide +kernel
theorem dX6_who_14 : decode cX6_who 14 = .ok (.invokestatic 79, 3) := by decide +kernel
theorem dX6_who_17 : decode cX6_who 17 = .ok (.ifCond .eq 26, 3) := by decide +kernel
theorem dX6_who_20 : decode cX6_who 20 = .ok (.iload_n 3, 1) := by decide +kernel
theorem dX6_who_21 : decode cX6_who 21 = .ok (.invokestatic 75, 3) := by decide +kernel
theorem dX6_who_24 : decode cX6_who 24 = .ok (.ifCond .eq 19, 3) := by decide +kernel
theorem dX6_who_27 : decode cX6_who 27 = .ok (.iload 5, 2) := by decide +kernel
theorem dX6_who_29 : decode cX6_who 29 = .ok (.iconst 1, 1) := by decide +kernel
theorem dX6_who_30 : decode cX6_who 30 = .ok (.aload_n 0, 1) := by decide +kernel
theorem dX6_who_31 : decode cX6_who 31 = .ok (.getfield 25, 3) := by decide +kernel
theorem dX6_who_34 : decode cX6_who 34 = .ok (.getfield 146, 3) := by decide +kernel
theorem dX6_who_37 : decode cX6_who 37 = .ok (.invokestatic 79, 3) := by decide +kernel
theorem dX6_who_40 : decode cX6_who 40 = .ok (.ifCond .ne 6, 3) := by decide +kernel
theorem dX6_who_43 : decode cX6_who 43 = .ok (.ldc 83, 2) := by decide +kernel
theorem dX6_who_45 : decode cX6_who 45 = .ok (.ireturn, 1) := by decide +kernel
theorem dX6_who_46 : decode cX6_who 46 = .ok (.aload_n 0, 1) := by decide +kernel
theorem dX6_who_47 : decode cX6_who 47 = .ok (.getfield 11, 3) := by decide +kernel
theorem dX6_who_50 : decode cX6_who 50 = .ok (.iload_n 3, 1) := by decide +kernel
theorem dX6_who_51 : decode cX6_who 51 = .ok (.aaload, 1) := by decide +kernel
theorem dX6_who_52 : decode cX6_who 52 = .ok (.astore 6, 2) := by decide +kernel
theorem dX6_who_54 : decode cX6_who 54 = .ok (.aload 6, 2) := by decide +kernel
theorem dX6_who_56 : decode cX6_who 56 = .ok (.iload 4, 2) := by decide +kernel
theorem dX6_who_58 : decode cX6_who 58 = .ok (.iload 5, 2) := by decide +kernel
theorem dX6_who_60 : decode cX6_who 60 = .ok (.invokevirtual 95, 3) := by decide +kernel
theorem dX6_who_63 : decode cX6_who 63 = .ok (.istore 7, 2) := by decide +kernel
theorem dX6_who_65 : decode cX6_who 65 = .ok (.iload 7, 2) := by decide +kernel
theorem dX6_who_67 : decode cX6_who 67 = .ok (.ifCond .eq 10, 3) := by decide +kernel
theorem dX6_who_70 : decode cX6_who 70 = .ok (.aload_n 0, 1) := by decide +kernel
theorem dX6_who_71 : decode cX6_who 71 = .ok (.iload 7, 2) := by decide +kernel
theorem dX6_who_73 : decode cX6_who 73 = .ok (.invokevirtual 84, 3) := by decide +kernel
theorem dX6_who_76 : decode cX6_who 76 = .ok (.ireturn, 1) := by decide +kernel
theorem dX6_who_77 : decode cX6_who 77 = .ok (.aload_n 0, 1) := by decide +kernel
theorem dX6_who_78 : decode cX6_who 78 = .ok (.getfield 25, 3) := by decide +kernel
theorem dX6_who_81 : decode cX6_who 81 = .ok (.getfield 183, 3) := by decide +kernel
theorem dX6_who_84 : decode cX6_who 84 = .ok (.iload_n 1, 1) := by decide +kernel
theorem dX6_who_85 : decode cX6_who 85 = .ok (.iaload, 1) := by decide +kernel
theorem dX6_who_86 : decode cX6_who 86 = .ok (.istore 8, 2) := by decide +kernel
theorem dX6_who_88 : decode cX6_who 88 = .ok (.aload_n 0, 1) := by decide +kernel
theorem dX6_who_89 : decode cX6_who 89 = .ok (.getfield 25, 3) := by decide +kernel
theorem dX6_who_92 : decode cX6_who 92 = .ok (.getfield 180, 3) := by decide +kernel
theorem dX6_who_95 : decode cX6_who 95 = .ok (.iload_n 1, 1) := by decide +kernel
theorem dX6_who_96 : decode cX6_who 96 = .ok (.iaload, 1) := by decide +kernel
theorem dX6_who_97 : decode cX6_who 97 = .ok (.istore 9, 2) := by decide +kernel
theorem dX6_who_99 : decode cX6_who 99 = .ok (.aload_n 0, 1) := by decide +kernel
theorem dX6_who_100 : decode cX6_who 100 = .ok (.getfield 25, 3) := by decide +kernel
theorem dX6_who_103 : decode cX6_who 103 = .ok (.getfield 195, 3) := by decide +kernel
theorem dX6_who_106 : decode cX6_who 106 = .ok (.iload_n 1, 1) := by decide +kernel
theorem dX6_who_107 : decode cX6_who 107 = .ok (.iaload, 1) := by decide +kernel
theorem dX6_who_108 : decode cX6_who 108 = .ok (.istore 10, 2) := by decide +kernel
theorem dX6_who_110 : decode cX6_who 110 = .ok (.iload_n 2, 1) := by decide +kernel
theorem dX6_who_111 : decode cX6_who 111 = .ok (.ifCond .ne 7, 3) := by decide +kernel
theorem dX6_who_114 : decode cX6_who 114 = .ok (.iconst 1, 1) := by decide +kernel
theorem dX6_who_115 : decode cX6_who 115 = .ok (.goto 4, 3) := by decide +kernel
theorem dX6_who_118 : decode cX6_who 118 = .ok (.iconst 0, 1) := by decide +kernel
theorem dX6_who_119 : decode cX6_who 119 = .ok (.istore 11, 2) := by decide +kernel
theorem dX6_who_121 : decode cX6_who 121 = .ok (.iload_n 2, 1) := by decide +kernel
theorem dX6_who_122 : decode cX6_who 122 = .ok (.ifCond .ne 7, 3) := by decide +kernel
theorem dX6_who_125 : decode cX6_who 125 = .ok (.iconst 5, 1) := by decide +kernel
theorem dX6_who_126 : decode cX6_who 126 = .ok (.goto 14, 3) := by decide +kernel
theorem dX6_who_129 : decode cX6_who 129 = .ok (.iload_n 2, 1) := by decide +kernel
theorem dX6_who_130 : decode cX6_who 130 = .ok (.iconst 1, 1) := by decide +kernel
theorem dX6_who_131 : decode cX6_who 131 = .ok (.if_icmp .ne 7, 3) := by decide +kernel
theorem dX6_who_134 : decode cX6_who 134 = .ok (.iconst 2, 1) := by decide +kernel
theorem dX6_who_135 : decode cX6_who 135 = .ok (.goto 5, 3) := by decide +kernel
theorem dX6_who_138 : decode cX6_who 138 = .ok (.bipush 20, 2) := by decide +kernel
theorem dX6_who_140 : decode cX6_who 140 = .ok (.istore 12, 2) := by decide +kernel
theorem dX6_who_142 : decode cX6_who 142 = .ok (.iconst 0, 1) := by decide +kernel
theorem dX6_who_143 : decode cX6_who 143 = .ok (.istore 13, 2) := by decide +kernel
theorem dX6_who_145 : decode cX6_who 145 = .ok (.aload_n 0, 1) := by decide +kernel
theorem dX6_who_146 : decode cX6_who 146 = .ok (.getfield 29, 3) := by decide +kernel
theorem dX6_who_149 : decode cX6_who 149 = .ok (.aload_n 0, 1) := by decide +kernel
theorem dX6_who_150 : decode cX6_who 150 = .ok (.getfield 25, 3) := by decide +kernel
theorem dX6_who_153 : decode cX6_who 153 = .ok (.invokevirtual 140, 3) := by decide +kernel
theorem dX6_who_156 : decode cX6_who 156 = .ok (.iload 11, 2) := by decide +kernel
theorem dX6_who_158 : decode cX6_who 158 = .ok (.istore 14, 2) := by decide +kernel
theorem dX6_who_160 : decode cX6_who 160 = .ok (.iload 14, 2) := by decide +kernel
theorem dX6_who_162 : decode cX6_who 162 = .ok (.iload 12, 2) := by decide +kernel
theorem dX6_who_164 : decode cX6_who 164 = .ok (.if_icmp .gt 77, 3) := by decide +kernel
theorem dX6_who_167 : decode cX6_who 167 = .ok (.aload_n 0, 1) := by decide +kernel
theorem dX6_who_168 : decode cX6_who 168 = .ok (.getfield 29, 3) := by decide +kernel
theorem dX6_who_171 : decode cX6_who 171 = .ok (.iload_n 1, 1) := by decide +kernel
theorem dX6_who_172 : decode cX6_who 172 = .ok (.iload_n 2, 1) := by decide +kernel
theorem dX6_who_173 : decode cX6_who 173 = .ok (.ifCond .ne 8, 3) := by decide +kernel
theorem dX6_who_176 : decode cX6_who 176 = .ok (.iload 14, 2) := by decide +kernel
theorem dX6_who_178 : decode cX6_who 178 = .ok (.goto 5, 3) := by decide +kernel
theorem dX6_who_181 : decode cX6_who 181 = .ok (.iload 8, 2) := by decide +kernel
theorem dX6_who_183 : decode cX6_who 183 = .ok (.iload_n 2, 1) := by decide +kernel
theorem dX6_who_184 : decode cX6_who 184 = .ok (.iconst 1, 1) := by decide +kernel
theorem dX6_who_185 : decode cX6_who 185 = .ok (.if_icmp .ne 8, 3) := by decide +kernel
theorem dX6_who_188 : decode cX6_who 188 = .ok (.iload 14, 2) := by decide +kernel
theorem dX6_who_190 : decode cX6_who 190 = .ok (.goto 5, 3) := by decide +kernel
theorem dX6_who_193 : decode cX6_who 193 = .ok (.iload 9, 2) := by decide +kernel
theorem dX6_who_195 : decode cX6_who 195 = .ok (.iload_n 2, 1) := by decide +kernel
theorem dX6_who_196 : decode cX6_who 196 = .ok (.iconst 2, 1) := by decide +kernel
theorem dX6_who_197 : decode cX6_who 197 = .ok (.if_icmp .ne 8, 3) := by decide +kernel
theorem dX6_who_200 : decode cX6_who 200 = .ok (.iload 14, 2) := by decide +kernel
theorem dX6_who_202 : decode cX6_who 202 = .ok (.goto 5, 3) := by decide +kernel
theorem dX6_who_205 : decode cX6_who 205 = .ok (.iload 10, 2) := by decide +kernel
theorem dX6_who_207 : decode cX6_who 207 = .ok (.invokevirtual 186, 3) := by decide +kernel
theorem dX6_who_210 : decode cX6_who 210 = .ok (.aload_n 0, 1) := by decide +kernel
theorem dX6_who_211 : decode cX6_who 211 = .ok (.getfield 29, 3) := by decide +kernel
theorem dX6_who_214 : decode cX6_who 214 = .ok (.aload 6, 2) := by decide +kernel
theorem dX6_who_216 : decode cX6_who 216 = .ok (.iload 4, 2) := by decide +kernel
theorem dX6_who_218 : decode cX6_who 218 = .ok (.iload 5, 2) := by decide +kernel
theorem dX6_who_220 : decode cX6_who 220 = .ok (.invokevirtual 248, 3) := by decide +kernel
theorem dX6_who_223 : decode cX6_who 223 = .ok (.ifCond .eq 12, 3) := by decide +kernel
theorem dX6_who_226 : decode cX6_who 226 = .ok (.iload 13, 2) := by decide +kernel
theorem dX6_who_228 : decode cX6_who 228 = .ok (.iconst 1, 1) := by decide +kernel
theorem dX6_who_229 : decode cX6_who 229 = .ok (.iload 14, 2) := by decide +kernel
theorem dX6_who_231 : decode cX6_who 231 = .ok (.ishl, 1) := by decide +kernel
theorem dX6_who_232 : decode cX6_who 232 = .ok (.ior, 1) := by decide +kernel
theorem dX6_who_233 : decode cX6_who 233 = .ok (.istore 13, 2) := by decide +kernel
theorem dX6_who_235 : decode cX6_who 235 = .ok (.iinc 14 1, 3) := by decide +kernel
theorem dX6_who_238 : decode cX6_who 238 = .ok (.goto (-78), 3) := by decide +kernel
theorem dX6_who_241 : decode cX6_who 241 = .ok (.aload_n 0, 1) := by decide +kernel
theorem dX6_who_242 : decode cX6_who 242 = .ok (.iload 13, 2) := by decide +kernel
theorem dX6_who_244 : decode cX6_who 244 = .ok (.invokevirtual 92, 3) := by decide +kernel
theorem dX6_who_247 : decode cX6_who 247 = .ok (.ireturn, 1) := by decide +kernel
theorem dX6_lost_0 : decode cX6_lost 0 = .ok (.aload_n 0, 1) := by decide +kernel
theorem dX6_lost_1 : decode cX6_lost 1 = .ok (.getfield 25, 3) := by decide +kernel
theorem dX6_lost_4 : decode cX6_lost 4 = .ok (.iload_n 1, 1) := by decide +kernel
theorem dX6_lost_5 : decode cX6_lost 5 = .ok (.invokevirtual 166, 3) := by decide +kernel
theorem dX6_lost_8 : decode cX6_lost 8 = .ok (.ifCond .eq 33, 3) := by decide +kernel
theorem dX6_lost_11 : decode cX6_lost 11 = .ok (.iload_n 2, 1) := by decide +kernel
theorem dX6_lost_12 : decode cX6_lost 12 = .ok (.iconst 0, 1) := by decide +kernel
theorem dX6_lost_13 : decode cX6_lost 13 = .ok (.bipush 99, 2) := by decide +kernel
theorem dX6_lost_15 : decode cX6_lost 15 = .ok (.invokestatic 79, 3) := by decide +kernel
theorem dX6_lost_18 : decode cX6_lost 18 = .ok (.ifCond .eq 23, 3) := by decide +kernel
theorem dX6_lost_21 : decode cX6_lost 21 = .ok (.iload_n 3, 1) := by decide +kernel
theorem dX6_lost_22 : decode cX6_lost 22 = .ok (.iconst 0, 1) := by decide +kernel
theorem dX6_lost_23 : decode cX6_lost 23 = .ok (.bipush 10, 2) := by decide +kernel
theorem dX6_lost_25 : decode cX6_lost 25 = .ok (.invokestatic 79, 3) := by decide +kernel
theorem dX6_lost_28 : decode cX6_lost 28 = .ok (.ifCond .eq 13, 3) := by decide +kernel
theorem dX6_lost_31 : decode cX6_lost 31 = .ok (.iload 4, 2) := by decide +kernel
theorem dX6_lost_33 : decode cX6_lost 33 = .ok (.iconst 0, 1) := by decide +kernel
theorem dX6_lost_34 : decode cX6_lost 34 = .ok (.iconst 1, 1) := by decide +kernel
theorem dX6_lost_35 : decode cX6_lost 35 = .ok (.invokestatic 79, 3) := by decide +kernel
theorem dX6_lost_38 : decode cX6_lost 38 = .ok (.ifCond .ne 7, 3) := by decide +kernel
theorem dX6_lost_41 : decode cX6_lost 41 = .ok (.ldc2_w 251, 3) := by decide +kernel
theorem dX6_lost_44 : decode cX6_lost 44 = .ok (.lreturn, 1) := by decide +kernel
theorem dX6_lost_45 : decode cX6_lost 45 = .ok (.aload_n 0, 1) := by decide +kernel
theorem dX6_lost_46 : decode cX6_lost 46 = .ok (.getfield 25, 3) := by decide +kernel
theorem dX6_lost_49 : decode cX6_lost 49 = .ok (.iconst 2, 1) := by decide +kernel
theorem dX6_lost_50 : decode cX6_lost 50 = .ok (.invokevirtual 253, 3) := by decide +kernel
theorem dX6_lost_53 : decode cX6_lost 53 = .ok (.istore 5, 2) := by decide +kernel
theorem dX6_lost_55 : decode cX6_lost 55 = .ok (.iload 5, 2) := by decide +kernel
theorem dX6_lost_57 : decode cX6_lost 57 = .ok (.iconst 5, 1) := by decide +kernel
theorem dX6_lost_58 : decode cX6_lost 58 = .ok (.if_icmp .le 7, 3) := by decide +kernel
theorem dX6_lost_61 : decode cX6_lost 61 = .ok (.ldc2_w 256, 3) := by decide +kernel
theorem dX6_lost_64 : decode cX6_lost 64 = .ok (.lreturn, 1) := by decide +kernel
theorem dX6_lost_65 : decode cX6_lost 65 = .ok (.aload_n 0, 1) := by decide +kernel
theorem dX6_lost_66 : decode cX6_lost 66 = .ok (.invokevirtual 258, 3) := by decide +kernel
theorem dX6_lost_69 : decode cX6_lost 69 = .ok (.aload_n 0, 1) := by decide +kernel
theorem dX6_lost_70 : decode cX6_lost 70 = .ok (.getfield 29, 3) := by decide +kernel
theorem dX6_lost_73 : decode cX6_lost 73 = .ok (.aload_n 0, 1) := by decide +kernel
theorem dX6_lost_74 : decode cX6_lost 74 = .ok (.getfield 25, 3) := by decide +kernel
theorem dX6_lost_77 : decode cX6_lost 77 = .ok (.invokevirtual 140, 3) := by decide +kernel
theorem dX6_lost_80 : decode cX6_lost 80 = .ok (.lconst 0, 1) := by decide +kernel
theorem dX6_lost_81 : decode cX6_lost 81 = .ok (.lstore 6, 2) := by decide +kernel
theorem dX6_lost_83 : decode cX6_lost 83 = .ok (.iconst 0, 1) := by decide +kernel
theorem dX6_lost_84 : decode cX6_lost 84 = .ok (.istore 8, 2) := by decide +kernel
theorem dX6_lost_86 : decode cX6_lost 86 = .ok (.iload 8, 2) := by decide +kernel
theorem dX6_lost_88 : decode cX6_lost 88 = .ok (.iconst 1, 1) := by decide +kernel
theorem dX6_lost_89 : decode cX6_lost 89 = .ok (.iload 5, 2) := by decide +kernel
theorem dX6_lost_91 : decode cX6_lost 91 = .ok (.ishl, 1) := by decide +kernel
theorem dX6_lost_92 : decode cX6_lost 92 = .ok (.if_icmp .ge 62, 3) := by decide +kernel
theorem dX6_lost_95 : decode cX6_lost 95 = .ok (.aload_n 0, 1) := by decide +kernel
theorem dX6_lost_96 : decode cX6_lost 96 = .ok (.iload 8, 2) := by decide +kernel
theorem dX6_lost_98 : decode cX6_lost 98 = .ok (.iload 5, 2) := by decide +kernel
theorem dX6_lost_100 : decode cX6_lost 100 = .ok (.invokevirtual 261, 3) := by decide +kernel
theorem dX6_lost_103 : decode cX6_lost 103 = .ok (.aload_n 0, 1) := by decide +kernel
theorem dX6_lost_104 : decode cX6_lost 104 = .ok (.getfield 29, 3) := by decide +kernel
theorem dX6_lost_107 : decode cX6_lost 107 = .ok (.iload_n 1, 1) := by decide +kernel
theorem dX6_lost_108 : decode cX6_lost 108 = .ok (.invokevirtual 245, 3) := by decide +kernel
theorem dX6_lost_111 : decode cX6_lost 111 = .ok (.iload_n 2, 1) := by decide +kernel
theorem dX6_lost_112 : decode cX6_lost 112 = .ok (.if_icmp .ne 36, 3) := by decide +kernel
theorem dX6_lost_115 : decode cX6_lost 115 = .ok (.iload 8, 2) := by decide +kernel
theorem dX6_lost_117 : decode cX6_lost 117 = .ok (.invokestatic 264, 3) := by decide +kernel
theorem dX6_lost_120 : decode cX6_lost 120 = .ok (.istore 9, 2) := by decide +kernel
theorem dX6_lost_122 : decode cX6_lost 122 = .ok (.lload 6, 2) := by decide +kernel
theorem dX6_lost_124 : decode cX6_lost 124 = .ok (.iload_n 3, 1) := by decide +kernel
theorem dX6_lost_125 : decode cX6_lost 125 = .ok (.i2l, 1) := by decide +kernel
theorem dX6_lost_126 : decode cX6_lost 126 = .ok (.iload 9, 2) := by decide +kernel
theorem dX6_lost_128 : decode cX6_lost 128 = .ok (.invokestatic 269, 3) := by decide +kernel
theorem dX6_lost_131 : decode cX6_lost 131 = .ok (.bipush 10, 2) := by decide +kernel
theorem dX6_lost_133 : decode cX6_lost 133 = .ok (.iload_n 3, 1) := by decide +kernel
theorem dX6_lost_134 : decode cX6_lost 134 = .ok (.isub, 1) := by decide +kernel
theorem dX6_lost_135 : decode cX6_lost 135 = .ok (.i2l, 1) := by decide +kernel
theorem dX6_lost_136 : decode cX6_lost 136 = .ok (.iload 5, 2) := by decide +kernel
theorem dX6_lost_138 : decode cX6_lost 138 = .ok (.iload 9, 2) := by decide +kernel
theorem dX6_lost_140 : decode cX6_lost 140 = .ok (.isub, 1) := by decide +kernel
theorem dX6_lost_141 : decode cX6_lost 141 = .ok (.invokestatic 269, 3) := by decide +kernel
theorem dX6_lost_144 : decode cX6_lost 144 = .ok (.lmul, 1) := by decide +kernel
theorem dX6_lost_145 : decode cX6_lost 145 = .ok (.ladd, 1) := by decide +kernel
theorem dX6_lost_146 : decode cX6_lost 146 = .ok (.lstore 6, 2) := by decide +kernel
theorem dX6_lost_148 : decode cX6_lost 148 = .ok (.iinc 8 1, 3) := by decide +kernel
theorem dX6_lost_151 : decode cX6_lost 151 = .ok (.goto (-65), 3) := by decide +kernel
theorem dX6_lost_154 : decode cX6_lost 154 = .ok (.ldc2_w 273, 3) := by decide +kernel
theorem dX6_lost_157 : decode cX6_lost 157 = .ok (.iload 5, 2) := by decide +kernel
theorem dX6_lost_159 : decode cX6_lost 159 = .ok (.invokestatic 269, 3) := by decide +kernel
theorem dX6_lost_162 : decode cX6_lost 162 = .ok (.lstore 8, 2) := by decide +kernel
theorem dX6_lost_164 : decode cX6_lost 164 = .ok (.lload 6, 2) := by decide +kernel
theorem dX6_lost_166 : decode cX6_lost 166 = .ok (.lload 8, 2) := by decide +kernel
theorem dX6_lost_168 : decode cX6_lost 168 = .ok (.invokestatic 275, 3) := by decide +kernel
theorem dX6_lost_171 : decode cX6_lost 171 = .ok (.lstore 10, 2) := by decide +kernel
theorem dX6_lost_173 : decode cX6_lost 173 = .ok (.iload 4, 2) := by decide +kernel
theorem dX6_lost_175 : decode cX6_lost 175 = .ok (.ifCond .ne 11, 3) := by decide +kernel
theorem dX6_lost_178 : decode cX6_lost 178 = .ok (.lload 6, 2) := by decide +kernel
theorem dX6_lost_180 : decode cX6_lost 180 = .ok (.lload 10, 2) := by decide +kernel
theorem dX6_lost_182 : decode cX6_lost 182 = .ok (.ldiv, 1) := by decide +kernel
theorem dX6_lost_183 : decode cX6_lost 183 = .ok (.goto 8, 3) := by decide +kernel
theorem dX6_lost_186 : decode cX6_lost 186 = .ok (.lload 8, 2) := by decide +kernel
theorem dX6_lost_188 : decode cX6_lost 188 = .ok (.lload 10, 2) := by decide +kernel
theorem dX6_lost_190 : decode cX6_lost 190 = .ok (.ldiv, 1) := by decide +kernel
theorem dX6_lost_191 : decode cX6_lost 191 = .ok (.lreturn, 1) := by decide +kernel
theorem dX6_drawn_0 : decode cX6_drawn 0 = .ok (.aload_n 0, 1) := by decide +kernel
theorem dX6_drawn_1 : decode cX6_drawn 1 = .ok (.getfield 25, 3) := by decide +kernel
theorem dX6_drawn_4 : decode cX6_drawn 4 = .ok (.invokevirtual 152, 3) := by decide +kernel
theorem dX6_drawn_7 : decode cX6_drawn 7 = .ok (.ifCond .eq 6, 3) := by decide +kernel
theorem dX6_drawn_10 : decode cX6_drawn 10 = .ok (.ldc 148, 2) := by decide +kernel
theorem dX6_drawn_12 : decode cX6_drawn 12 = .ok (.ireturn, 1) := by decide +kernel
theorem dX6_drawn_13 : decode cX6_drawn 13 = .ok (.iload_n 1, 1) := by decide +kernel
theorem dX6_drawn_14 : decode cX6_drawn 14 = .ok (.iconst 0, 1) := by decide +kernel
theorem dX6_drawn_15 : decode cX6_drawn 15 = .ok (.bipush 60, 2) := by decide +kernel
theorem dX6_drawn_17 : decode cX6_drawn 17 = .ok (.invokestatic 79, 3) := by decide +kernel
theorem dX6_drawn_20 : decode cX6_drawn 20 = .ok (.ifCond .eq 23, 3) := by decide +kernel
theorem dX6_drawn_23 : decode cX6_drawn 23 = .ok (.iload_n 2, 1) := by decide +kernel
theorem dX6_drawn_24 : decode cX6_drawn 24 = .ok (.iconst 1, 1) := by decide +kernel
theorem dX6_drawn_25 : decode cX6_drawn 25 = .ok (.ldc_w 279, 3) := by decide +kernel
theorem dX6_drawn_28 : decode cX6_drawn 28 = .ok (.invokestatic 79, 3) := by decide +kernel
theorem dX6_drawn_31 : decode cX6_drawn 31 = .ok (.ifCond .eq 12, 3) := by decide +kernel
theorem dX6_drawn_34 : decode cX6_drawn 34 = .ok (.iload_n 3, 1) := by decide +kernel
theorem dX6_drawn_35 : decode cX6_drawn 35 = .ok (.iconst 0, 1) := by decide +kernel
theorem dX6_drawn_36 : decode cX6_drawn 36 = .ok (.iconst 1, 1) := by decide +kernel
theorem dX6_drawn_37 : decode cX6_drawn 37 = .ok (.invokestatic 79, 3) := by decide +kernel
theorem dX6_drawn_40 : decode cX6_drawn 40 = .ok (.ifCond .ne 6, 3) := by decide +kernel
theorem dX6_drawn_43 : decode cX6_drawn 43 = .ok (.ldc 83, 2) := by decide +kernel
theorem dX6_drawn_45 : decode cX6_drawn 45 = .ok (.ireturn, 1) := by decide +kernel
theorem dX6_drawn_46 : decode cX6_drawn 46 = .ok (.aload_n 0, 1) := by decide +kernel
theorem dX6_drawn_47 : decode cX6_drawn 47 = .ok (.getfield 29, 3) := by decide +kernel
theorem dX6_drawn_50 : decode cX6_drawn 50 = .ok (.aload_n 0, 1) := by decide +kernel
theorem dX6_drawn_51 : decode cX6_drawn 51 = .ok (.getfield 25, 3) := by decide +kernel
theorem dX6_drawn_54 : decode cX6_drawn 54 = .ok (.invokevirtual 140, 3) := by decide +kernel
theorem dX6_drawn_57 : decode cX6_drawn 57 = .ok (.iload_n 2, 1) := by decide +kernel
theorem dX6_drawn_58 : decode cX6_drawn 58 = .ok (.i2l, 1) := by decide +kernel
theorem dX6_drawn_59 : decode cX6_drawn 59 = .ok (.lstore 4, 2) := by decide +kernel
theorem dX6_drawn_61 : decode cX6_drawn 61 = .ok (.iconst 0, 1) := by decide +kernel
theorem dX6_drawn_62 : decode cX6_drawn 62 = .ok (.istore 6, 2) := by decide +kernel
theorem dX6_drawn_64 : decode cX6_drawn 64 = .ok (.iload 6, 2) := by decide +kernel
theorem dX6_drawn_66 : decode cX6_drawn 66 = .ok (.iload_n 1, 1) := by decide +kernel
theorem dX6_drawn_67 : decode cX6_drawn 67 = .ok (.if_icmp .ge 30, 3) := by decide +kernel
theorem dX6_drawn_70 : decode cX6_drawn 70 = .ok (.lload 4, 2) := by decide +kernel
theorem dX6_drawn_72 : decode cX6_drawn 72 = .ok (.ldc2_w 280, 3) := by decide +kernel
theorem dX6_drawn_75 : decode cX6_drawn 75 = .ok (.lmul, 1) := by decide +kernel
theorem dX6_drawn_76 : decode cX6_drawn 76 = .ok (.ldc2_w 282, 3) := by decide +kernel
theorem dX6_drawn_79 : decode cX6_drawn 79 = .ok (.lrem, 1) := by decide +kernel
theorem dX6_drawn_80 : decode cX6_drawn 80 = .ok (.lstore 4, 2) := by decide +kernel
theorem dX6_drawn_82 : decode cX6_drawn 82 = .ok (.aload_n 0, 1) := by decide +kernel
theorem dX6_drawn_83 : decode cX6_drawn 83 = .ok (.getfield 29, 3) := by decide +kernel
theorem dX6_drawn_86 : decode cX6_drawn 86 = .ok (.lload 4, 2) := by decide +kernel
theorem dX6_drawn_88 : decode cX6_drawn 88 = .ok (.invokevirtual 284, 3) := by decide +kernel
theorem dX6_drawn_91 : decode cX6_drawn 91 = .ok (.iinc 6 1, 3) := by decide +kernel
theorem dX6_drawn_94 : decode cX6_drawn 94 = .ok (.goto (-30), 3) := by decide +kernel
theorem dX6_drawn_97 : decode cX6_drawn 97 = .ok (.iload_n 3, 1) := by decide +kernel
theorem dX6_drawn_98 : decode cX6_drawn 98 = .ok (.ifCond .ne 13, 3) := by decide +kernel
theorem dX6_drawn_101 : decode cX6_drawn 101 = .ok (.aload_n 0, 1) := by decide +kernel
theorem dX6_drawn_102 : decode cX6_drawn 102 = .ok (.getfield 29, 3) := by decide +kernel
theorem dX6_drawn_105 : decode cX6_drawn 105 = .ok (.getfield 146, 3) := by decide +kernel
theorem dX6_drawn_108 : decode cX6_drawn 108 = .ok (.goto 10, 3) := by decide +kernel
theorem dX6_drawn_111 : decode cX6_drawn 111 = .ok (.aload_n 0, 1) := by decide +kernel
theorem dX6_drawn_112 : decode cX6_drawn 112 = .ok (.getfield 29, 3) := by decide +kernel
theorem dX6_drawn_115 : decode cX6_drawn 115 = .ok (.invokevirtual 288, 3) := by decide +kernel
theorem dX6_drawn_118 : decode cX6_drawn 118 = .ok (.ireturn, 1) := by decide +kernel
theorem dX6_image_0 : decode cX6_image 0 = .ok (.iload_n 1, 1) := by decide +kernel
theorem dX6_image_1 : decode cX6_image 1 = .ok (.iconst 0, 1) := by decide +kernel
theorem dX6_image_2 : decode cX6_image 2 = .ok (.iconst 1, 1) := by decide +kernel
theorem dX6_image_3 : decode cX6_image 3 = .ok (.invokestatic 79, 3) := by decide +kernel
theorem dX6_image_6 : decode cX6_image 6 = .ok (.ifCond .ne 6, 3) := by decide +kernel
theorem dX6_image_9 : decode cX6_image 9 = .ok (.ldc 83, 2) := by decide +kernel
theorem dX6_image_11 : decode cX6_image 11 = .ok (.ireturn, 1) := by decide +kernel
theorem dX6_image_12 : decode cX6_image 12 = .ok (.aload_n 0, 1) := by decide +kernel
theorem dX6_image_13 : decode cX6_image 13 = .ok (.getfield 25, 3) := by decide +kernel
theorem dX6_image_16 : decode cX6_image 16 = .ok (.invokevirtual 152, 3) := by decide +kernel
theorem dX6_image_19 : decode cX6_image 19 = .ok (.ifCond .eq 6, 3) := by decide +kernel
theorem dX6_image_22 : decode cX6_image 22 = .ok (.ldc 148, 2) := by decide +kernel
theorem dX6_image_24 : decode cX6_image 24 = .ok (.ireturn, 1) := by decide +kernel
theorem dX6_image_25 : decode cX6_image 25 = .ok (.aload_n 0, 1) := by decide +kernel
theorem dX6_image_26 : decode cX6_image 26 = .ok (.getfield 32, 3) := by decide +kernel
theorem dX6_image_29 : decode cX6_image 29 = .ok (.iload_n 1, 1) := by decide +kernel
theorem dX6_image_30 : decode cX6_image 30 = .ok (.aaload, 1) := by decide +kernel
theorem dX6_image_31 : decode cX6_image 31 = .ok (.aload_n 0, 1) := by decide +kernel
theorem dX6_image_32 : decode cX6_image 32 = .ok (.getfield 25, 3) := by decide +kernel
theorem dX6_image_35 : decode cX6_image 35 = .ok (.invokevirtual 140, 3) := by decide +kernel
theorem dX6_image_38 : decode cX6_image 38 = .ok (.iconst 1, 1) := by decide +kernel
theorem dX6_image_39 : decode cX6_image 39 = .ok (.ireturn, 1) := by decide +kernel
theorem dX6_restore_0 : decode cX6_restore 0 = .ok (.iload_n 1, 1) := by decide +kernel
theorem dX6_restore_1 : decode cX6_restore 1 = .ok (.iconst 0, 1) := by decide +kernel
theorem dX6_restore_2 : decode cX6_restore 2 = .ok (.iconst 1, 1) := by decide +kernel
theorem dX6_restore_3 : decode cX6_restore 3 = .ok (.invokestatic 79, 3) := by decide +kernel
theorem dX6_restore_6 : decode cX6_restore 6 = .ok (.ifCond .ne 6, 3) := by decide +kernel
theorem dX6_restore_9 : decode cX6_restore 9 = .ok (.ldc 83, 2) := by decide +kernel
theorem dX6_restore_11 : decode cX6_restore 11 = .ok (.ireturn, 1) := by decide +kernel
theorem dX6_restore_12 : decode cX6_restore 12 = .ok (.aload_n 0, 1) := by decide +kernel
theorem dX6_restore_13 : decode cX6_restore 13 = .ok (.getfield 32, 3) := by decide +kernel
theorem dX6_restore_16 : decode cX6_restore 16 = .ok (.iload_n 1, 1) := by decide +kernel
theorem dX6_restore_17 : decode cX6_restore 17 = .ok (.aaload, 1) := by decide +kernel
theorem dX6_restore_18 : decode cX6_restore 18 = .ok (.invokevirtual 152, 3) := by decide +kernel
theorem dX6_restore_21 : decode cX6_restore 21 = .ok (.ifCond .eq 6, 3) := by decide +kernel
theorem dX6_restore_24 : decode cX6_restore 24 = .ok (.ldc 148, 2) := by decide +kernel
theorem dX6_restore_26 : decode cX6_restore 26 = .ok (.ireturn, 1) := by decide +kernel
theorem dX6_restore_27 : decode cX6_restore 27 = .ok (.aload_n 0, 1) := by decide +kernel
theorem dX6_restore_28 : decode cX6_restore 28 = .ok (.getfield 25, 3) := by decide +kernel
theorem dX6_restore_31 : decode cX6_restore 31 = .ok (.aload_n 0, 1) := by decide +kernel
theorem dX6_restore_32 : decode cX6_restore 32 = .ok (.getfield 32, 3) := by decide +kernel
theorem dX6_restore_35 : decode cX6_restore 35 = .ok (.iload_n 1, 1) := by decide +kernel
theorem dX6_restore_36 : decode cX6_restore 36 = .ok (.aaload, 1) := by decide +kernel
theorem dX6_restore_37 : decode cX6_restore 37 = .ok (.invokevirtual 140, 3) := by decide +kernel
theorem dX6_restore_40 : decode cX6_restore 40 = .ok (.aload_n 0, 1) := by decide +kernel
theorem dX6_restore_41 : decode cX6_restore 41 = .ok (.getfield 39, 3) := by decide +kernel
theorem dX6_restore_44 : decode cX6_restore 44 = .ok (.invokevirtual 143, 3) := by decide +kernel
theorem dX6_restore_47 : decode cX6_restore 47 = .ok (.iconst 1, 1) := by decide +kernel
theorem dX6_restore_48 : decode cX6_restore 48 = .ok (.ireturn, 1) := by decide +kernel
theorem dX6_kind_0 : decode cX6_kind 0 = .ok (.aload_n 0, 1) := by decide +kernel
theorem dX6_kind_1 : decode cX6_kind 1 = .ok (.getfield 25, 3) := by decide +kernel
theorem dX6_kind_4 : decode cX6_kind 4 = .ok (.iload_n 1, 1) := by decide +kernel
theorem dX6_kind_5 : decode cX6_kind 5 = .ok (.invokevirtual 166, 3) := by decide +kernel
theorem dX6_kind_8 : decode cX6_kind 8 = .ok (.ifCond .eq 15, 3) := by decide +kernel
theorem dX6_kind_11 : decode cX6_kind 11 = .ok (.aload_n 0, 1) := by decide +kernel
theorem dX6_kind_12 : decode cX6_kind 12 = .ok (.getfield 25, 3) := by decide +kernel
theorem dX6_kind_15 : decode cX6_kind 15 = .ok (.getfield 183, 3) := by decide +kernel
theorem dX6_kind_18 : decode cX6_kind 18 = .ok (.iload_n 1, 1) := by decide +kernel
theorem dX6_kind_19 : decode cX6_kind 19 = .ok (.iaload, 1) := by decide +kernel
theorem dX6_kind_20 : decode cX6_kind 20 = .ok (.goto 5, 3) := by decide +kernel
theorem dX6_kind_23 : decode cX6_kind 23 = .ok (.ldc 83, 2) := by decide +kernel
theorem dX6_kind_25 : decode cX6_kind 25 = .ok (.ireturn, 1) := by decide +kernel
theorem dX6_as_0 : decode cX6_as 0 = .ok (.aload_n 0, 1) := by decide +kernel
theorem dX6_as_1 : decode cX6_as 1 = .ok (.getfield 25, 3) := by decide +kernel
theorem dX6_as_4 : decode cX6_as 4 = .ok (.iload_n 1, 1) := by decide +kernel
theorem dX6_as_5 : decode cX6_as 5 = .ok (.invokevirtual 166, 3) := by decide +kernel
theorem dX6_as_8 : decode cX6_as 8 = .ok (.ifCond .eq 12, 3) := by decide +kernel
theorem dX6_as_11 : decode cX6_as 11 = .ok (.iload_n 2, 1) := by decide +kernel
theorem dX6_as_12 : decode cX6_as 12 = .ok (.iconst 0, 1) := by decide +kernel
theorem dX6_as_13 : decode cX6_as 13 = .ok (.iconst 5, 1) := by decide +kernel
theorem dX6_as_14 : decode cX6_as 14 = .ok (.invokestatic 79, 3) := by decide +kernel
theorem dX6_as_17 : decode cX6_as 17 = .ok (.ifCond .ne 6, 3) := by decide +kernel
theorem dX6_as_20 : decode cX6_as 20 = .ok (.ldc 83, 2) := by decide +kernel
theorem dX6_as_22 : decode cX6_as 22 = .ok (.ireturn, 1) := by decide +kernel
theorem dX6_as_23 : decode cX6_as 23 = .ok (.aload_n 0, 1) := by decide +kernel
theorem dX6_as_24 : decode cX6_as 24 = .ok (.getfield 25, 3) := by decide +kernel
theorem dX6_as_27 : decode cX6_as 27 = .ok (.getfield 183, 3) := by decide +kernel
theorem dX6_as_30 : decode cX6_as 30 = .ok (.iload_n 1, 1) := by decide +kernel
theorem dX6_as_31 : decode cX6_as 31 = .ok (.iaload, 1) := by decide +kernel
theorem dX6_as_32 : decode cX6_as 32 = .ok (.istore_n 3, 1) := by decide +kernel
theorem dX6_as_33 : decode cX6_as 33 = .ok (.iconst 0, 1) := by decide +kernel
theorem dX6_as_34 : decode cX6_as 34 = .ok (.istore 4, 2) := by decide +kernel
theorem dX6_as_36 : decode cX6_as 36 = .ok (.iload 4, 2) := by decide +kernel
theorem dX6_as_38 : decode cX6_as 38 = .ok (.bipush 6, 2) := by decide +kernel
theorem dX6_as_40 : decode cX6_as 40 = .ok (.if_icmp .ge 25, 3) := by decide +kernel
theorem dX6_as_43 : decode cX6_as 43 = .ok (.iload_n 3, 1) := by decide +kernel
theorem dX6_as_44 : decode cX6_as 44 = .ok (.iload_n 2, 1) := by decide +kernel
theorem dX6_as_45 : decode cX6_as 45 = .ok (.if_icmp .eq 20, 3) := by decide +kernel
theorem dX6_as_48 : decode cX6_as 48 = .ok (.iload_n 3, 1) := by decide +kernel
theorem dX6_as_49 : decode cX6_as 49 = .ok (.iconst (-1), 1) := by decide +kernel
theorem dX6_as_50 : decode cX6_as 50 = .ok (.if_icmp .eq 15, 3) := by decide +kernel
theorem dX6_as_53 : decode cX6_as 53 = .ok (.getstatic 292, 3) := by decide +kernel
theorem dX6_as_56 : decode cX6_as 56 = .ok (.iload_n 3, 1) := by decide +kernel
theorem dX6_as_57 : decode cX6_as 57 = .ok (.iaload, 1) := by decide +kernel
theorem dX6_as_58 : decode cX6_as 58 = .ok (.istore_n 3, 1) := by decide +kernel
theorem dX6_as_59 : decode cX6_as 59 = .ok (.iinc 4 1, 3) := by decide +kernel
theorem dX6_as_62 : decode cX6_as 62 = .ok (.goto (-26), 3) := by decide +kernel
theorem dX6_as_65 : decode cX6_as 65 = .ok (.iload_n 3, 1) := by decide +kernel
theorem dX6_as_66 : decode cX6_as 66 = .ok (.iload_n 2, 1) := by decide +kernel
theorem dX6_as_67 : decode cX6_as 67 = .ok (.if_icmp .ne 11, 3) := by decide +kernel
theorem dX6_as_70 : decode cX6_as 70 = .ok (.aload_n 0, 1) := by decide +kernel
theorem dX6_as_71 : decode cX6_as 71 = .ok (.iload_n 1, 1) := by decide +kernel
theorem dX6_as_72 : decode cX6_as 72 = .ok (.invokevirtual 92, 3) := by decide +kernel
theorem dX6_as_75 : decode cX6_as 75 = .ok (.goto 8, 3) := by decide +kernel
theorem dX6_as_78 : decode cX6_as 78 = .ok (.aload_n 0, 1) := by decide +kernel
theorem dX6_as_79 : decode cX6_as 79 = .ok (.iconst 3, 1) := by decide +kernel
theorem dX6_as_80 : decode cX6_as 80 = .ok (.invokevirtual 84, 3) := by decide +kernel
theorem dX6_as_83 : decode cX6_as 83 = .ok (.ireturn, 1) := by decide +kernel
theorem dX6_ask_0 : decode cX6_ask 0 = .ok (.aload_n 0, 1) := by decide +kernel
theorem dX6_ask_1 : decode cX6_ask 1 = .ok (.getfield 25, 3) := by decide +kernel
theorem dX6_ask_4 : decode cX6_ask 4 = .ok (.iload_n 1, 1) := by decide +kernel
theorem dX6_ask_5 : decode cX6_ask 5 = .ok (.invokevirtual 166, 3) := by decide +kernel
theorem dX6_ask_8 : decode cX6_ask 8 = .ok (.ifCond .eq 12, 3) := by decide +kernel
theorem dX6_ask_11 : decode cX6_ask 11 = .ok (.iload_n 2, 1) := by decide +kernel
theorem dX6_ask_12 : decode cX6_ask 12 = .ok (.iconst 0, 1) := by decide +kernel
theorem dX6_ask_13 : decode cX6_ask 13 = .ok (.iconst 1, 1) := by decide +kernel
theorem dX6_ask_14 : decode cX6_ask 14 = .ok (.invokestatic 79, 3) := by decide +kernel
theorem dX6_ask_17 : decode cX6_ask 17 = .ok (.ifCond .ne 6, 3) := by decide +kernel
theorem dX6_ask_20 : decode cX6_ask 20 = .ok (.ldc 83, 2) := by decide +kernel
theorem dX6_ask_22 : decode cX6_ask 22 = .ok (.ireturn, 1) := by decide +kernel
theorem dX6_ask_23 : decode cX6_ask 23 = .ok (.aload_n 0, 1) := by decide +kernel
theorem dX6_ask_24 : decode cX6_ask 24 = .ok (.iconst 0, 1) := by decide +kernel
theorem dX6_ask_25 : decode cX6_ask 25 = .ok (.putfield 64, 3) := by decide +kernel
theorem dX6_ask_28 : decode cX6_ask 28 = .ok (.aload_n 0, 1) := by decide +kernel
theorem dX6_ask_29 : decode cX6_ask 29 = .ok (.iload_n 2, 1) := by decide +kernel
theorem dX6_ask_30 : decode cX6_ask 30 = .ok (.iload_n 1, 1) := by decide +kernel
theorem dX6_ask_31 : decode cX6_ask 31 = .ok (.iconst 0, 1) := by decide +kernel
theorem dX6_ask_32 : decode cX6_ask 32 = .ok (.invokevirtual 295, 3) := by decide +kernel
theorem dX6_ask_35 : decode cX6_ask 35 = .ok (.ireturn, 1) := by decide +kernel
theorem dX6_trace_0 : decode cX6_trace 0 = .ok (.iload_n 1, 1) := by decide +kernel
theorem dX6_trace_1 : decode cX6_trace 1 = .ok (.ifCond .lt 20, 3) := by decide +kernel
theorem dX6_trace_4 : decode cX6_trace 4 = .ok (.iload_n 1, 1) := by decide +kernel
theorem dX6_trace_5 : decode cX6_trace 5 = .ok (.aload_n 0, 1) := by decide +kernel
theorem dX6_trace_6 : decode cX6_trace 6 = .ok (.getfield 64, 3) := by decide +kernel
theorem dX6_trace_9 : decode cX6_trace 9 = .ok (.if_icmp .ge 12, 3) := by decide +kernel
theorem dX6_trace_12 : decode cX6_trace 12 = .ok (.aload_n 0, 1) := by decide +kernel
theorem dX6_trace_13 : decode cX6_trace 13 = .ok (.getfield 61, 3) := by decide +kernel
theorem dX6_trace_16 : decode cX6_trace 16 = .ok (.iload_n 1, 1) := by decide +kernel
theorem dX6_trace_17 : decode cX6_trace 17 = .ok (.iaload, 1) := by decide +kernel
theorem dX6_trace_18 : decode cX6_trace 18 = .ok (.goto 5, 3) := by decide +kernel
theorem dX6_trace_21 : decode cX6_trace 21 = .ok (.ldc 233, 2) := by decide +kernel
theorem dX6_trace_23 : decode cX6_trace 23 = .ok (.ireturn, 1) := by decide +kernel
theorem dX6_count_0 : decode cX6_count 0 = .ok (.iload_n 1, 1) := by decide +kernel
theorem dX6_count_1 : decode cX6_count 1 = .ok (.tableswitch 103 0 5 #[39, 44, 52, 79, 87, 95], 39) := by decide +kernel
theorem dX6_count_40 : decode cX6_count 40 = .ok (.aload_n 0, 1) := by decide +kernel
theorem dX6_count_41 : decode cX6_count 41 = .ok (.invokevirtual 298, 3) := by decide +kernel
theorem dX6_count_44 : decode cX6_count 44 = .ok (.ireturn, 1) := by decide +kernel
theorem dX6_count_45 : decode cX6_count 45 = .ok (.aload_n 0, 1) := by decide +kernel
theorem dX6_count_46 : decode cX6_count 46 = .ok (.getfield 25, 3) := by decide +kernel
theorem dX6_count_49 : decode cX6_count 49 = .ok (.getfield 146, 3) := by decide +kernel
theorem dX6_count_52 : decode cX6_count 52 = .ok (.ireturn, 1) := by decide +kernel
theorem dX6_count_53 : decode cX6_count 53 = .ok (.aload_n 0, 1) := by decide +kernel
theorem dX6_count_54 : decode cX6_count 54 = .ok (.getfield 25, 3) := by decide +kernel
theorem dX6_count_57 : decode cX6_count 57 = .ok (.iconst 1, 1) := by decide +kernel
theorem dX6_count_58 : decode cX6_count 58 = .ok (.invokevirtual 253, 3) := by decide +kernel
theorem dX6_count_61 : decode cX6_count 61 = .ok (.aload_n 0, 1) := by decide +kernel
theorem dX6_count_62 : decode cX6_count 62 = .ok (.getfield 25, 3) := by decide +kernel
theorem dX6_count_65 : decode cX6_count 65 = .ok (.iconst 2, 1) := by decide +kernel
theorem dX6_count_66 : decode cX6_count 66 = .ok (.invokevirtual 253, 3) := by decide +kernel
theorem dX6_count_69 : decode cX6_count 69 = .ok (.iadd, 1) := by decide +kernel
theorem dX6_count_70 : decode cX6_count 70 = .ok (.aload_n 0, 1) := by decide +kernel
theorem dX6_count_71 : decode cX6_count 71 = .ok (.getfield 25, 3) := by decide +kernel
theorem dX6_count_74 : decode cX6_count 74 = .ok (.iconst 3, 1) := by decide +kernel
theorem dX6_count_75 : decode cX6_count 75 = .ok (.invokevirtual 253, 3) := by decide +kernel
theorem dX6_count_78 : decode cX6_count 78 = .ok (.iadd, 1) := by decide +kernel
theorem dX6_count_79 : decode cX6_count 79 = .ok (.ireturn, 1) := by decide +kernel
theorem dX6_count_80 : decode cX6_count 80 = .ok (.aload_n 0, 1) := by decide +kernel
theorem dX6_count_81 : decode cX6_count 81 = .ok (.getfield 25, 3) := by decide +kernel
theorem dX6_count_84 : decode cX6_count 84 = .ok (.invokevirtual 288, 3) := by decide +kernel
theorem dX6_count_87 : decode cX6_count 87 = .ok (.ireturn, 1) := by decide +kernel
theorem dX6_count_88 : decode cX6_count 88 = .ok (.aload_n 0, 1) := by decide +kernel
theorem dX6_count_89 : decode cX6_count 89 = .ok (.getfield 39, 3) := by decide +kernel
theorem dX6_count_92 : decode cX6_count 92 = .ok (.getfield 147, 3) := by decide +kernel
theorem dX6_count_95 : decode cX6_count 95 = .ok (.ireturn, 1) := by decide +kernel
theorem dX6_count_96 : decode cX6_count 96 = .ok (.aload_n 0, 1) := by decide +kernel
theorem dX6_count_97 : decode cX6_count 97 = .ok (.getfield 18, 3) := by decide +kernel
theorem dX6_count_100 : decode cX6_count 100 = .ok (.getfield 125, 3) := by decide +kernel
theorem dX6_count_103 : decode cX6_count 103 = .ok (.ireturn, 1) := by decide +kernel
theorem dX6_count_104 : decode cX6_count 104 = .ok (.ldc 83, 2) := by decide +kernel
theorem dX6_count_106 : decode cX6_count 106 = .ok (.ireturn, 1) := by decide +kernel
theorem dX6_status_0 : decode cX6_status 0 = .ok (.aload_n 0, 1) := by decide +kernel
theorem dX6_status_1 : decode cX6_status 1 = .ok (.getfield 68, 3) := by decide +kernel
theorem dX6_status_4 : decode cX6_status 4 = .ok (.ireturn, 1) := by decide +kernel
theorem dX6_isBetween_0 : decode cX6_isBetween 0 = .ok (.iload_n 0, 1) := by decide +kernel
theorem dX6_isBetween_1 : decode cX6_isBetween 1 = .ok (.iload_n 1, 1) := by decide +kernel
theorem dX6_isBetween_2 : decode cX6_isBetween 2 = .ok (.if_icmp .lt 12, 3) := by decide +kernel
theorem dX6_isBetween_5 : decode cX6_isBetween 5 = .ok (.iload_n 0, 1) := by decide +kernel
theorem dX6_isBetween_6 : decode cX6_isBetween 6 = .ok (.iload_n 2, 1) := by decide +kernel
theorem dX6_isBetween_7 : decode cX6_isBetween 7 = .ok (.if_icmp .gt 7, 3) := by decide +kernel
theorem dX6_isBetween_10 : decode cX6_isBetween 10 = .ok (.iconst 1, 1) := by decide +kernel
theorem dX6_isBetween_11 : decode cX6_isBetween 11 = .ok (.goto 4, 3) := by decide +kernel
theorem dX6_isBetween_14 : decode cX6_isBetween 14 = .ok (.iconst 0, 1) := by decide +kernel
theorem dX6_isBetween_15 : decode cX6_isBetween 15 = .ok (.ireturn, 1) := by decide +kernel
theorem dX6_isRow_0 : decode cX6_isRow 0 = .ok (.iload_n 0, 1) := by decide +kernel
theorem dX6_isRow_1 : decode cX6_isRow 1 = .ok (.iconst 0, 1) := by decide +kernel
theorem dX6_isRow_2 : decode cX6_isRow 2 = .ok (.bipush 7, 2) := by decide +kernel
theorem dX6_isRow_4 : decode cX6_isRow 4 = .ok (.invokestatic 79, 3) := by decide +kernel
theorem dX6_isRow_7 : decode cX6_isRow 7 = .ok (.ireturn, 1) := by decide +kernel
theorem dX6_isLevel_0 : decode cX6_isLevel 0 = .ok (.iload_n 0, 1) := by decide +kernel
theorem dX6_isLevel_1 : decode cX6_isLevel 1 = .ok (.iconst 0, 1) := by decide +kernel
theorem dX6_isLevel_2 : decode cX6_isLevel 2 = .ok (.iconst 2, 1) := by decide +kernel
theorem dX6_isLevel_3 : decode cX6_isLevel 3 = .ok (.invokestatic 79, 3) := by decide +kernel
theorem dX6_isLevel_6 : decode cX6_isLevel 6 = .ok (.ireturn, 1) := by decide +kernel
theorem dX6_isTold_0 : decode cX6_isTold 0 = .ok (.iload_n 0, 1) := by decide +kernel
theorem dX6_isTold_1 : decode cX6_isTold 1 = .ok (.iconst 1, 1) := by decide +kernel
theorem dX6_isTold_2 : decode cX6_isTold 2 = .ok (.iconst 5, 1) := by decide +kernel
theorem dX6_isTold_3 : decode cX6_isTold 3 = .ok (.invokestatic 79, 3) := by decide +kernel
theorem dX6_isTold_6 : decode cX6_isTold 6 = .ok (.ifCond .eq 24, 3) := by decide +kernel
theorem dX6_isTold_9 : decode cX6_isTold 9 = .ok (.iload_n 1, 1) := by decide +kernel
theorem dX6_isTold_10 : decode cX6_isTold 10 = .ok (.invokestatic 189, 3) := by decide +kernel
theorem dX6_isTold_13 : decode cX6_isTold 13 = .ok (.ifCond .eq 17, 3) := by decide +kernel
theorem dX6_isTold_16 : decode cX6_isTold 16 = .ok (.iload_n 2, 1) := by decide +kernel
theorem dX6_isTold_17 : decode cX6_isTold 17 = .ok (.iconst 0, 1) := by decide +kernel
theorem dX6_isTold_18 : decode cX6_isTold 18 = .ok (.bipush 20, 2) := by decide +kernel
theorem dX6_isTold_20 : decode cX6_isTold 20 = .ok (.invokestatic 79, 3) := by decide +kernel
theorem dX6_isTold_23 : decode cX6_isTold 23 = .ok (.ifCond .eq 7, 3) := by decide +kernel
theorem dX6_isTold_26 : decode cX6_isTold 26 = .ok (.iconst 1, 1) := by decide +kernel
theorem dX6_isTold_27 : decode cX6_isTold 27 = .ok (.goto 4, 3) := by decide +kernel
theorem dX6_isTold_30 : decode cX6_isTold 30 = .ok (.iconst 0, 1) := by decide +kernel
theorem dX6_isTold_31 : decode cX6_isTold 31 = .ok (.ireturn, 1) := by decide +kernel
theorem dX6_found_0 : decode cX6_found 0 = .ok (.aload_n 0, 1) := by decide +kernel
theorem dX6_found_1 : decode cX6_found 1 = .ok (.iload_n 1, 1) := by decide +kernel
theorem dX6_found_2 : decode cX6_found 2 = .ok (.putfield 68, 3) := by decide +kernel
theorem dX6_found_5 : decode cX6_found 5 = .ok (.ldc_w 301, 3) := by decide +kernel
theorem dX6_found_8 : decode cX6_found 8 = .ok (.iload_n 1, 1) := by decide +kernel
theorem dX6_found_9 : decode cX6_found 9 = .ok (.isub, 1) := by decide +kernel
theorem dX6_found_10 : decode cX6_found 10 = .ok (.ireturn, 1) := by decide +kernel
theorem dX6_foundNothing_0 : decode cX6_foundNothing 0 = .ok (.aload_n 0, 1) := by decide +kernel
theorem dX6_foundNothing_1 : decode cX6_foundNothing 1 = .ok (.iconst 0, 1) := by decide +kernel
theorem dX6_foundNothing_2 : decode cX6_foundNothing 2 = .ok (.putfield 68, 3) := by decide +kernel
theorem dX6_foundNothing_5 : decode cX6_foundNothing 5 = .ok (.iload_n 1, 1) := by decide +kernel
theorem dX6_foundNothing_6 : decode cX6_foundNothing 6 = .ok (.ireturn, 1) := by decide +kernel
theorem dX6_howManyRows_0 : decode cX6_howManyRows 0 = .ok (.iconst 0, 1) := by decide +kernel
theorem dX6_howManyRows_1 : decode cX6_howManyRows 1 = .ok (.istore_n 1, 1) := by decide +kernel
theorem dX6_howManyRows_2 : decode cX6_howManyRows 2 = .ok (.iconst 0, 1) := by decide +kernel
theorem dX6_howManyRows_3 : decode cX6_howManyRows 3 = .ok (.istore_n 2, 1) := by decide +kernel
theorem dX6_howManyRows_4 : decode cX6_howManyRows 4 = .ok (.iload_n 2, 1) := by decide +kernel
theorem dX6_howManyRows_5 : decode cX6_howManyRows 5 = .ok (.bipush 8, 2) := by decide +kernel
theorem dX6_howManyRows_7 : decode cX6_howManyRows 7 = .ok (.if_icmp .ge 24, 3) := by decide +kernel
theorem dX6_howManyRows_10 : decode cX6_howManyRows 10 = .ok (.aload_n 0, 1) := by decide +kernel
theorem dX6_howManyRows_11 : decode cX6_howManyRows 11 = .ok (.getfield 11, 3) := by decide +kernel
theorem dX6_howManyRows_14 : decode cX6_howManyRows 14 = .ok (.iload_n 2, 1) := by decide +kernel
theorem dX6_howManyRows_15 : decode cX6_howManyRows 15 = .ok (.aaload, 1) := by decide +kernel
theorem dX6_howManyRows_16 : decode cX6_howManyRows 16 = .ok (.invokevirtual 105, 3) := by decide +kernel
theorem dX6_howManyRows_19 : decode cX6_howManyRows 19 = .ok (.ifCond .ne 6, 3) := by decide +kernel
theorem dX6_howManyRows_22 : decode cX6_howManyRows 22 = .ok (.iinc 1 1, 3) := by decide +kernel
theorem dX6_howManyRows_25 : decode cX6_howManyRows 25 = .ok (.iinc 2 1, 3) := by decide +kernel
theorem dX6_howManyRows_28 : decode cX6_howManyRows 28 = .ok (.goto (-24), 3) := by decide +kernel
theorem dX6_howManyRows_31 : decode cX6_howManyRows 31 = .ok (.iload_n 1, 1) := by decide +kernel
theorem dX6_howManyRows_32 : decode cX6_howManyRows 32 = .ok (.ireturn, 1) := by decide +kernel
theorem dX6_keepAct_0 : decode cX6_keepAct 0 = .ok (.aload_n 0, 1) := by decide +kernel
theorem dX6_keepAct_1 : decode cX6_keepAct 1 = .ok (.getfield 39, 3) := by decide +kernel
theorem dX6_keepAct_4 : decode cX6_keepAct 4 = .ok (.iload_n 1, 1) := by decide +kernel
theorem dX6_keepAct_5 : decode cX6_keepAct 5 = .ok (.iload_n 2, 1) := by decide +kernel
theorem dX6_keepAct_6 : decode cX6_keepAct 6 = .ok (.iload_n 3, 1) := by decide +kernel
theorem dX6_keepAct_7 : decode cX6_keepAct 7 = .ok (.aload_n 0, 1) := by decide +kernel
theorem dX6_keepAct_8 : decode cX6_keepAct 8 = .ok (.getfield 25, 3) := by decide +kernel
theorem dX6_keepAct_11 : decode cX6_keepAct 11 = .ok (.getfield 183, 3) := by decide +kernel
theorem dX6_keepAct_14 : decode cX6_keepAct 14 = .ok (.iload_n 2, 1) := by decide +kernel
theorem dX6_keepAct_15 : decode cX6_keepAct 15 = .ok (.iaload, 1) := by decide +kernel
theorem dX6_keepAct_16 : decode cX6_keepAct 16 = .ok (.aload_n 0, 1) := by decide +kernel
theorem dX6_keepAct_17 : decode cX6_keepAct 17 = .ok (.getfield 25, 3) := by decide +kernel
theorem dX6_keepAct_20 : decode cX6_keepAct 20 = .ok (.getfield 180, 3) := by decide +kernel
theorem dX6_keepAct_23 : decode cX6_keepAct 23 = .ok (.iload_n 2, 1) := by decide +kernel
theorem dX6_keepAct_24 : decode cX6_keepAct 24 = .ok (.iaload, 1) := by decide +kernel
theorem dX6_keepAct_25 : decode cX6_keepAct 25 = .ok (.aload_n 0, 1) := by decide +kernel
theorem dX6_keepAct_26 : decode cX6_keepAct 26 = .ok (.getfield 25, 3) := by decide +kernel
theorem dX6_keepAct_29 : decode cX6_keepAct 29 = .ok (.getfield 195, 3) := by decide +kernel
theorem dX6_keepAct_32 : decode cX6_keepAct 32 = .ok (.iload_n 2, 1) := by decide +kernel
theorem dX6_keepAct_33 : decode cX6_keepAct 33 = .ok (.iaload, 1) := by decide +kernel
theorem dX6_keepAct_34 : decode cX6_keepAct 34 = .ok (.invokevirtual 162, 3) := by decide +kernel
theorem dX6_keepAct_37 : decode cX6_keepAct 37 = .ok (.return_, 1) := by decide +kernel
theorem dX6_signOfLabel_0 : decode cX6_signOfLabel 0 = .ok (.aload_n 0, 1) := by decide +kernel
theorem dX6_signOfLabel_1 : decode cX6_signOfLabel 1 = .ok (.getfield 25, 3) := by decide +kernel
theorem dX6_signOfLabel_4 : decode cX6_signOfLabel 4 = .ok (.iload_n 1, 1) := by decide +kernel
theorem dX6_signOfLabel_5 : decode cX6_signOfLabel 5 = .ok (.iload_n 2, 1) := by decide +kernel
theorem dX6_signOfLabel_6 : decode cX6_signOfLabel 6 = .ok (.aload_n 0, 1) := by decide +kernel
theorem dX6_signOfLabel_7 : decode cX6_signOfLabel 7 = .ok (.getfield 50, 3) := by decide +kernel
theorem dX6_signOfLabel_10 : decode cX6_signOfLabel 10 = .ok (.invokevirtual 202, 3) := by decide +kernel
theorem dX6_signOfLabel_13 : decode cX6_signOfLabel 13 = .ok (.iload_n 3, 1) := by decide +kernel
theorem dX6_signOfLabel_14 : decode cX6_signOfLabel 14 = .ok (.aload_n 0, 1) := by decide +kernel
theorem dX6_signOfLabel_15 : decode cX6_signOfLabel 15 = .ok (.getfield 50, 3) := by decide +kernel
theorem dX6_signOfLabel_18 : decode cX6_signOfLabel 18 = .ok (.getfield 206, 3) := by decide +kernel
theorem dX6_signOfLabel_21 : decode cX6_signOfLabel 21 = .ok (.if_icmp .ge 15, 3) := by decide +kernel
theorem dX6_signOfLabel_24 : decode cX6_signOfLabel 24 = .ok (.aload_n 0, 1) := by decide +kernel
theorem dX6_signOfLabel_25 : decode cX6_signOfLabel 25 = .ok (.getfield 50, 3) := by decide +kernel
theorem dX6_signOfLabel_28 : decode cX6_signOfLabel 28 = .ok (.getfield 302, 3) := by decide +kernel
theorem dX6_signOfLabel_31 : decode cX6_signOfLabel 31 = .ok (.iload_n 3, 1) := by decide +kernel
theorem dX6_signOfLabel_32 : decode cX6_signOfLabel 32 = .ok (.caload, 1) := by decide +kernel
theorem dX6_signOfLabel_33 : decode cX6_signOfLabel 33 = .ok (.goto 5, 3) := by decide +kernel
theorem dX6_signOfLabel_36 : decode cX6_signOfLabel 36 = .ok (.ldc 233, 2) := by decide +kernel
theorem dX6_signOfLabel_38 : decode cX6_signOfLabel 38 = .ok (.ireturn, 1) := by decide +kernel
theorem dX6_registeredAhead_0 : decode cX6_registeredAhead 0 = .ok (.iconst 0, 1) := by decide +kernel
theorem dX6_registeredAhead_1 : decode cX6_registeredAhead 1 = .ok (.istore_n 2, 1) := by decide +kernel
theorem dX6_registeredAhead_2 : decode cX6_registeredAhead 2 = .ok (.iconst 0, 1) := by decide +kernel
theorem dX6_registeredAhead_3 : decode cX6_registeredAhead 3 = .ok (.istore_n 3, 1) := by decide +kernel
theorem dX6_registeredAhead_4 : decode cX6_registeredAhead 4 = .ok (.iload_n 3, 1) := by decide +kernel
theorem dX6_registeredAhead_5 : decode cX6_registeredAhead 5 = .ok (.aload_n 0, 1) := by decide +kernel
theorem dX6_registeredAhead_6 : decode cX6_registeredAhead 6 = .ok (.getfield 25, 3) := by decide +kernel
theorem dX6_registeredAhead_9 : decode cX6_registeredAhead 9 = .ok (.getfield 146, 3) := by decide +kernel
theorem dX6_registeredAhead_12 : decode cX6_registeredAhead 12 = .ok (.if_icmp .ge 55, 3) := by decide +kernel
theorem dX6_registeredAhead_15 : decode cX6_registeredAhead 15 = .ok (.aload_n 0, 1) := by decide +kernel
theorem dX6_registeredAhead_16 : decode cX6_registeredAhead 16 = .ok (.getfield 45, 3) := by decide +kernel
theorem dX6_registeredAhead_19 : decode cX6_registeredAhead 19 = .ok (.iload_n 3, 1) := by decide +kernel
theorem dX6_registeredAhead_20 : decode cX6_registeredAhead 20 = .ok (.aaload, 1) := by decide +kernel
theorem dX6_registeredAhead_21 : decode cX6_registeredAhead 21 = .ok (.aload_n 0, 1) := by decide +kernel
theorem dX6_registeredAhead_22 : decode cX6_registeredAhead 22 = .ok (.getfield 45, 3) := by decide +kernel
theorem dX6_registeredAhead_25 : decode cX6_registeredAhead 25 = .ok (.iload_n 1, 1) := by decide +kernel
theorem dX6_registeredAhead_26 : decode cX6_registeredAhead 26 = .ok (.aaload, 1) := by decide +kernel
theorem dX6_registeredAhead_27 : decode cX6_registeredAhead 27 = .ok (.invokevirtual 238, 3) := by decide +kernel
theorem dX6_registeredAhead_30 : decode cX6_registeredAhead 30 = .ok (.istore 4, 2) := by decide +kernel
theorem dX6_registeredAhead_32 : decode cX6_registeredAhead 32 = .ok (.aload_n 0, 1) := by decide +kernel
theorem dX6_registeredAhead_33 : decode cX6_registeredAhead 33 = .ok (.getfield 25, 3) := by decide +kernel
theorem dX6_registeredAhead_36 : decode cX6_registeredAhead 36 = .ok (.iload_n 3, 1) := by decide +kernel
theorem dX6_registeredAhead_37 : decode cX6_registeredAhead 37 = .ok (.invokevirtual 227, 3) := by decide +kernel
theorem dX6_registeredAhead_40 : decode cX6_registeredAhead 40 = .ok (.ifCond .eq 21, 3) := by decide +kernel
theorem dX6_registeredAhead_43 : decode cX6_registeredAhead 43 = .ok (.iload 4, 2) := by decide +kernel
theorem dX6_registeredAhead_45 : decode cX6_registeredAhead 45 = .ok (.ifCond .lt 13, 3) := by decide +kernel
theorem dX6_registeredAhead_48 : decode cX6_registeredAhead 48 = .ok (.iload 4, 2) := by decide +kernel
theorem dX6_registeredAhead_50 : decode cX6_registeredAhead 50 = .ok (.ifCond .ne 11, 3) := by decide +kernel
theorem dX6_registeredAhead_53 : decode cX6_registeredAhead 53 = .ok (.iload_n 3, 1) := by decide +kernel
theorem dX6_registeredAhead_54 : decode cX6_registeredAhead 54 = .ok (.iload_n 1, 1) := by decide +kernel
theorem dX6_registeredAhead_55 : decode cX6_registeredAhead 55 = .ok (.if_icmp .ge 6, 3) := by decide +kernel
theorem dX6_registeredAhead_58 : decode cX6_registeredAhead 58 = .ok (.iinc 2 1, 3) := by decide +kernel
theorem dX6_registeredAhead_61 : decode cX6_registeredAhead 61 = .ok (.iinc 3 1, 3) := by decide +kernel
theorem dX6_registeredAhead_64 : decode cX6_registeredAhead 64 = .ok (.goto (-60), 3) := by decide +kernel
theorem dX6_registeredAhead_67 : decode cX6_registeredAhead 67 = .ok (.iload_n 2, 1) := by decide +kernel
theorem dX6_registeredAhead_68 : decode cX6_registeredAhead 68 = .ok (.ireturn, 1) := by decide +kernel
theorem dX6_countAt_0 : decode cX6_countAt 0 = .ok (.iload_n 2, 1) := by decide +kernel
theorem dX6_countAt_1 : decode cX6_countAt 1 = .ok (.iconst 0, 1) := by decide +kernel
theorem dX6_countAt_2 : decode cX6_countAt 2 = .ok (.aload_n 0, 1) := by decide +kernel
theorem dX6_countAt_3 : decode cX6_countAt 3 = .ok (.getfield 29, 3) := by decide +kernel
theorem dX6_countAt_6 : decode cX6_countAt 6 = .ok (.getfield 146, 3) := by decide +kernel
theorem dX6_countAt_9 : decode cX6_countAt 9 = .ok (.invokestatic 79, 3) := by decide +kernel
theorem dX6_countAt_12 : decode cX6_countAt 12 = .ok (.ifCond .ne 6, 3) := by decide +kernel
theorem dX6_countAt_15 : decode cX6_countAt 15 = .ok (.ldc 233, 2) := by decide +kernel
theorem dX6_countAt_17 : decode cX6_countAt 17 = .ok (.ireturn, 1) := by decide +kernel
theorem dX6_countAt_18 : decode cX6_countAt 18 = .ok (.aload_n 0, 1) := by decide +kernel
theorem dX6_countAt_19 : decode cX6_countAt 19 = .ok (.getfield 29, 3) := by decide +kernel
theorem dX6_countAt_22 : decode cX6_countAt 22 = .ok (.iload_n 2, 1) := by decide +kernel
theorem dX6_countAt_23 : decode cX6_countAt 23 = .ok (.invokevirtual 306, 3) := by decide +kernel
theorem dX6_countAt_26 : decode cX6_countAt 26 = .ok (.iconst 0, 1) := by decide +kernel
theorem dX6_countAt_27 : decode cX6_countAt 27 = .ok (.aload_n 0, 1) := by decide +kernel
theorem dX6_countAt_28 : decode cX6_countAt 28 = .ok (.getfield 54, 3) := by decide +kernel
theorem dX6_countAt_31 : decode cX6_countAt 31 = .ok (.iconst 0, 1) := by decide +kernel
theorem dX6_countAt_32 : decode cX6_countAt 32 = .ok (.bipush 6, 2) := by decide +kernel
theorem dX6_countAt_34 : decode cX6_countAt 34 = .ok (.invokestatic 116, 3) := by decide +kernel
theorem dX6_countAt_37 : decode cX6_countAt 37 = .ok (.aload_n 0, 1) := by decide +kernel
theorem dX6_countAt_38 : decode cX6_countAt 38 = .ok (.getfield 25, 3) := by decide +kernel
theorem dX6_countAt_41 : decode cX6_countAt 41 = .ok (.iload_n 1, 1) := by decide +kernel
theorem dX6_countAt_42 : decode cX6_countAt 42 = .ok (.aload_n 0, 1) := by decide +kernel
theorem dX6_countAt_43 : decode cX6_countAt 43 = .ok (.getfield 54, 3) := by decide +kernel
theorem dX6_countAt_46 : decode cX6_countAt 46 = .ok (.invokevirtual 217, 3) := by decide +kernel
theorem dX6_countAt_49 : decode cX6_countAt 49 = .ok (.aload_n 0, 1) := by decide +kernel
theorem dX6_countAt_50 : decode cX6_countAt 50 = .ok (.getfield 54, 3) := by decide +kernel
theorem dX6_countAt_53 : decode cX6_countAt 53 = .ok (.aload_n 0, 1) := by decide +kernel
theorem dX6_countAt_54 : decode cX6_countAt 54 = .ok (.getfield 25, 3) := by decide +kernel
theorem dX6_countAt_57 : decode cX6_countAt 57 = .ok (.getfield 180, 3) := by decide +kernel
theorem dX6_countAt_60 : decode cX6_countAt 60 = .ok (.iload_n 1, 1) := by decide +kernel
theorem dX6_countAt_61 : decode cX6_countAt 61 = .ok (.iaload, 1) := by decide +kernel
theorem dX6_countAt_62 : decode cX6_countAt 62 = .ok (.iaload, 1) := by decide +kernel
theorem dX6_countAt_63 : decode cX6_countAt 63 = .ok (.ireturn, 1) := by decide +kernel
theorem dX6_noteRestarts_0 : decode cX6_noteRestarts 0 = .ok (.iconst 0, 1) := by decide +kernel
theorem dX6_noteRestarts_1 : decode cX6_noteRestarts 1 = .ok (.istore_n 1, 1) := by decide +kernel
theorem dX6_noteRestarts_2 : decode cX6_noteRestarts 2 = .ok (.iconst 0, 1) := by decide +kernel
theorem dX6_noteRestarts_3 : decode cX6_noteRestarts 3 = .ok (.istore_n 2, 1) := by decide +kernel
theorem dX6_noteRestarts_4 : decode cX6_noteRestarts 4 = .ok (.iload_n 2, 1) := by decide +kernel
theorem dX6_noteRestarts_5 : decode cX6_noteRestarts 5 = .ok (.aload_n 0, 1) := by decide +kernel
theorem dX6_noteRestarts_6 : decode cX6_noteRestarts 6 = .ok (.getfield 25, 3) := by decide +kernel
theorem dX6_noteRestarts_9 : decode cX6_noteRestarts 9 = .ok (.getfield 146, 3) := by decide +kernel
theorem dX6_noteRestarts_12 : decode cX6_noteRestarts 12 = .ok (.if_icmp .ge 37, 3) := by decide +kernel
theorem dX6_noteRestarts_15 : decode cX6_noteRestarts 15 = .ok (.aload_n 0, 1) := by decide +kernel
theorem dX6_noteRestarts_16 : decode cX6_noteRestarts 16 = .ok (.getfield 25, 3) := by decide +kernel
theorem dX6_noteRestarts_19 : decode cX6_noteRestarts 19 = .ok (.getfield 183, 3) := by decide +kernel
theorem dX6_noteRestarts_22 : decode cX6_noteRestarts 22 = .ok (.iload_n 2, 1) := by decide +kernel
theorem dX6_noteRestarts_23 : decode cX6_noteRestarts 23 = .ok (.iaload, 1) := by decide +kernel
theorem dX6_noteRestarts_24 : decode cX6_noteRestarts 24 = .ok (.iconst 2, 1) := by decide +kernel
theorem dX6_noteRestarts_25 : decode cX6_noteRestarts 25 = .ok (.if_icmp .ne 18, 3) := by decide +kernel
theorem dX6_noteRestarts_28 : decode cX6_noteRestarts 28 = .ok (.iload_n 1, 1) := by decide +kernel
theorem dX6_noteRestarts_29 : decode cX6_noteRestarts 29 = .ok (.iconst 5, 1) := by decide +kernel
theorem dX6_noteRestarts_30 : decode cX6_noteRestarts 30 = .ok (.if_icmp .ge 13, 3) := by decide +kernel
theorem dX6_noteRestarts_33 : decode cX6_noteRestarts 33 = .ok (.aload_n 0, 1) := by decide +kernel
theorem dX6_noteRestarts_34 : decode cX6_noteRestarts 34 = .ok (.getfield 58, 3) := by decide +kernel
theorem dX6_noteRestarts_37 : decode cX6_noteRestarts 37 = .ok (.iload_n 1, 1) := by decide +kernel
theorem dX6_noteRestarts_38 : decode cX6_noteRestarts 38 = .ok (.iload_n 2, 1) := by decide +kernel
theorem dX6_noteRestarts_39 : decode cX6_noteRestarts 39 = .ok (.iastore, 1) := by decide +kernel
theorem dX6_noteRestarts_40 : decode cX6_noteRestarts 40 = .ok (.iinc 1 1, 3) := by decide +kernel
theorem dX6_noteRestarts_43 : decode cX6_noteRestarts 43 = .ok (.iinc 2 1, 3) := by decide +kernel
theorem dX6_noteRestarts_46 : decode cX6_noteRestarts 46 = .ok (.goto (-42), 3) := by decide +kernel
theorem dX6_noteRestarts_49 : decode cX6_noteRestarts 49 = .ok (.return_, 1) := by decide +kernel
theorem dX6_loseRestarts_0 : decode cX6_loseRestarts 0 = .ok (.iconst 0, 1) := by decide +kernel
theorem dX6_loseRestarts_1 : decode cX6_loseRestarts 1 = .ok (.istore_n 3, 1) := by decide +kernel
theorem dX6_loseRestarts_2 : decode cX6_loseRestarts 2 = .ok (.iload_n 3, 1) := by decide +kernel
theorem dX6_loseRestarts_3 : decode cX6_loseRestarts 3 = .ok (.iload_n 2, 1) := by decide +kernel
theorem dX6_loseRestarts_4 : decode cX6_loseRestarts 4 = .ok (.if_icmp .ge 60, 3) := by decide +kernel
theorem dX6_loseRestarts_7 : decode cX6_loseRestarts 7 = .ok (.aload_n 0, 1) := by decide +kernel
theorem dX6_loseRestarts_8 : decode cX6_loseRestarts 8 = .ok (.getfield 58, 3) := by decide +kernel
theorem dX6_loseRestarts_11 : decode cX6_loseRestarts 11 = .ok (.iload_n 3, 1) := by decide +kernel
theorem dX6_loseRestarts_12 : decode cX6_loseRestarts 12 = .ok (.iaload, 1) := by decide +kernel
theorem dX6_loseRestarts_13 : decode cX6_loseRestarts 13 = .ok (.istore 4, 2) := by decide +kernel
theorem dX6_loseRestarts_15 : decode cX6_loseRestarts 15 = .ok (.aload_n 0, 1) := by decide +kernel
theorem dX6_loseRestarts_16 : decode cX6_loseRestarts 16 = .ok (.getfield 29, 3) := by decide +kernel
theorem dX6_loseRestarts_19 : decode cX6_loseRestarts 19 = .ok (.iload 4, 2) := by decide +kernel
theorem dX6_loseRestarts_21 : decode cX6_loseRestarts 21 = .ok (.iload_n 1, 1) := by decide +kernel
theorem dX6_loseRestarts_22 : decode cX6_loseRestarts 22 = .ok (.iload_n 3, 1) := by decide +kernel
theorem dX6_loseRestarts_23 : decode cX6_loseRestarts 23 = .ok (.ishr, 1) := by decide +kernel
theorem dX6_loseRestarts_24 : decode cX6_loseRestarts 24 = .ok (.iconst 1, 1) := by decide +kernel
theorem dX6_loseRestarts_25 : decode cX6_loseRestarts 25 = .ok (.iand, 1) := by decide +kernel
theorem dX6_loseRestarts_26 : decode cX6_loseRestarts 26 = .ok (.iconst 1, 1) := by decide +kernel
theorem dX6_loseRestarts_27 : decode cX6_loseRestarts 27 = .ok (.if_icmp .ne 7, 3) := by decide +kernel
theorem dX6_loseRestarts_30 : decode cX6_loseRestarts 30 = .ok (.iconst 1, 1) := by decide +kernel
theorem dX6_loseRestarts_31 : decode cX6_loseRestarts 31 = .ok (.goto 4, 3) := by decide +kernel
theorem dX6_loseRestarts_34 : decode cX6_loseRestarts 34 = .ok (.iconst 2, 1) := by decide +kernel
theorem dX6_loseRestarts_35 : decode cX6_loseRestarts 35 = .ok (.aload_n 0, 1) := by decide +kernel
theorem dX6_loseRestarts_36 : decode cX6_loseRestarts 36 = .ok (.getfield 25, 3) := by decide +kernel
theorem dX6_loseRestarts_39 : decode cX6_loseRestarts 39 = .ok (.getfield 180, 3) := by decide +kernel
theorem dX6_loseRestarts_42 : decode cX6_loseRestarts 42 = .ok (.iload 4, 2) := by decide +kernel
theorem dX6_loseRestarts_44 : decode cX6_loseRestarts 44 = .ok (.iaload, 1) := by decide +kernel
theorem dX6_loseRestarts_45 : decode cX6_loseRestarts 45 = .ok (.aload_n 0, 1) := by decide +kernel
theorem dX6_loseRestarts_46 : decode cX6_loseRestarts 46 = .ok (.getfield 25, 3) := by decide +kernel
theorem dX6_loseRestarts_49 : decode cX6_loseRestarts 49 = .ok (.getfield 195, 3) := by decide +kernel
theorem dX6_loseRestarts_52 : decode cX6_loseRestarts 52 = .ok (.iload 4, 2) := by decide +kernel
theorem dX6_loseRestarts_54 : decode cX6_loseRestarts 54 = .ok (.iaload, 1) := by decide +kernel
theorem dX6_loseRestarts_55 : decode cX6_loseRestarts 55 = .ok (.invokevirtual 186, 3) := by decide +kernel
theorem dX6_loseRestarts_58 : decode cX6_loseRestarts 58 = .ok (.iinc 3 1, 3) := by decide +kernel
theorem dX6_loseRestarts_61 : decode cX6_loseRestarts 61 = .ok (.goto (-59), 3) := by decide +kernel
theorem dX6_loseRestarts_64 : decode cX6_loseRestarts 64 = .ok (.return_, 1) := by decide +kernel
theorem dX6_power_0 : decode cX6_power 0 = .ok (.lconst 1, 1) := by decide +kernel
theorem dX6_power_1 : decode cX6_power 1 = .ok (.lstore_n 3, 1) := by decide +kernel
theorem dX6_power_2 : decode cX6_power 2 = .ok (.iconst 0, 1) := by decide +kernel
theorem dX6_power_3 : decode cX6_power 3 = .ok (.istore 5, 2) := by decide +kernel
theorem dX6_power_5 : decode cX6_power 5 = .ok (.iload 5, 2) := by decide +kernel
theorem dX6_power_7 : decode cX6_power 7 = .ok (.iload_n 2, 1) := by decide +kernel
theorem dX6_power_8 : decode cX6_power 8 = .ok (.if_icmp .ge 13, 3) := by decide +kernel
theorem dX6_power_11 : decode cX6_power 11 = .ok (.lload_n 3, 1) := by decide +kernel
theorem dX6_power_12 : decode cX6_power 12 = .ok (.lload_n 0, 1) := by decide +kernel
theorem dX6_power_13 : decode cX6_power 13 = .ok (.lmul, 1) := by decide +kernel
theorem dX6_power_14 : decode cX6_power 14 = .ok (.lstore_n 3, 1) := by decide +kernel
theorem dX6_power_15 : decode cX6_power 15 = .ok (.iinc 5 1, 3) := by decide +kernel
theorem dX6_power_18 : decode cX6_power 18 = .ok (.goto (-13), 3) := by decide +kernel
theorem dX6_power_21 : decode cX6_power 21 = .ok (.lload_n 3, 1) := by decide +kernel
theorem dX6_power_22 : decode cX6_power 22 = .ok (.lreturn, 1) := by decide +kernel
theorem dX6_commonDivisor_0 : decode cX6_commonDivisor 0 = .ok (.lload_n 2, 1) := by decide +kernel
theorem dX6_commonDivisor_1 : decode cX6_commonDivisor 1 = .ok (.lstore 4, 2) := by decide +kernel
theorem dX6_commonDivisor_3 : decode cX6_commonDivisor 3 = .ok (.lload_n 0, 1) := by decide +kernel
theorem dX6_commonDivisor_4 : decode cX6_commonDivisor 4 = .ok (.lstore 6, 2) := by decide +kernel
theorem dX6_commonDivisor_6 : decode cX6_commonDivisor 6 = .ok (.iconst 0, 1) := by decide +kernel
theorem dX6_commonDivisor_7 : decode cX6_commonDivisor 7 = .ok (.istore 8, 2) := by decide +kernel
theorem dX6_commonDivisor_9 : decode cX6_commonDivisor 9 = .ok (.iload 8, 2) := by decide +kernel
theorem dX6_commonDivisor_11 : decode cX6_commonDivisor 11 = .ok (.bipush 100, 2) := by decide +kernel
theorem dX6_commonDivisor_13 : decode cX6_commonDivisor 13 = .ok (.if_icmp .ge 31, 3) := by decide +kernel
theorem dX6_commonDivisor_16 : decode cX6_commonDivisor 16 = .ok (.lload 6, 2) := by decide +kernel
theorem dX6_commonDivisor_18 : decode cX6_commonDivisor 18 = .ok (.lconst 0, 1) := by decide +kernel
theorem dX6_commonDivisor_19 : decode cX6_commonDivisor 19 = .ok (.lcmp, 1) := by decide +kernel
theorem dX6_commonDivisor_20 : decode cX6_commonDivisor 20 = .ok (.ifCond .le 24, 3) := by decide +kernel
theorem dX6_commonDivisor_23 : decode cX6_commonDivisor 23 = .ok (.lload 4, 2) := by decide +kernel
theorem dX6_commonDivisor_25 : decode cX6_commonDivisor 25 = .ok (.lload 6, 2) := by decide +kernel
theorem dX6_commonDivisor_27 : decode cX6_commonDivisor 27 = .ok (.lrem, 1) := by decide +kernel
theorem dX6_commonDivisor_28 : decode cX6_commonDivisor 28 = .ok (.lstore 9, 2) := by decide +kernel
theorem dX6_commonDivisor_30 : decode cX6_commonDivisor 30 = .ok (.lload 6, 2) := by decide +kernel
theorem dX6_commonDivisor_32 : decode cX6_commonDivisor 32 = .ok (.lstore 4, 2) := by decide +kernel
theorem dX6_commonDivisor_34 : decode cX6_commonDivisor 34 = .ok (.lload 9, 2) := by decide +kernel
theorem dX6_commonDivisor_36 : decode cX6_commonDivisor 36 = .ok (.lstore 6, 2) := by decide +kernel
theorem dX6_commonDivisor_38 : decode cX6_commonDivisor 38 = .ok (.iinc 8 1, 3) := by decide +kernel
theorem dX6_commonDivisor_41 : decode cX6_commonDivisor 41 = .ok (.goto (-32), 3) := by decide +kernel
theorem dX6_commonDivisor_44 : decode cX6_commonDivisor 44 = .ok (.lload 4, 2) := by decide +kernel
theorem dX6_commonDivisor_46 : decode cX6_commonDivisor 46 = .ok (.lconst 1, 1) := by decide +kernel
theorem dX6_commonDivisor_47 : decode cX6_commonDivisor 47 = .ok (.invokestatic 309, 3) := by decide +kernel
theorem dX6_commonDivisor_50 : decode cX6_commonDivisor 50 = .ok (.lreturn, 1) := by decide +kernel
theorem dX6_answerTo_0 : decode cX6_answerTo 0 = .ok (.iload_n 1, 1) := by decide +kernel
theorem dX6_answerTo_1 : decode cX6_answerTo 1 = .ok (.ifCond .ne 9, 3) := by decide +kernel
theorem dX6_answerTo_4 : decode cX6_answerTo 4 = .ok (.getstatic 314, 3) := by decide +kernel
theorem dX6_answerTo_7 : decode cX6_answerTo 7 = .ok (.goto 6, 3) := by decide +kernel
theorem dX6_answerTo_10 : decode cX6_answerTo 10 = .ok (.getstatic 317, 3) := by decide +kernel
theorem dX6_answerTo_13 : decode cX6_answerTo 13 = .ok (.astore 4, 2) := by decide +kernel
theorem dX6_answerTo_15 : decode cX6_answerTo 15 = .ok (.aload_n 0, 1) := by decide +kernel
theorem dX6_answerTo_16 : decode cX6_answerTo 16 = .ok (.getfield 25, 3) := by decide +kernel
theorem dX6_answerTo_19 : decode cX6_answerTo 19 = .ok (.getfield 183, 3) := by decide +kernel
theorem dX6_answerTo_22 : decode cX6_answerTo 22 = .ok (.iload_n 2, 1) := by decide +kernel
theorem dX6_answerTo_23 : decode cX6_answerTo 23 = .ok (.iaload, 1) := by decide +kernel
theorem dX6_answerTo_24 : decode cX6_answerTo 24 = .ok (.istore 5, 2) := by decide +kernel
theorem dX6_answerTo_26 : decode cX6_answerTo 26 = .ok (.iconst 0, 1) := by decide +kernel
theorem dX6_answerTo_27 : decode cX6_answerTo 27 = .ok (.istore 6, 2) := by decide +kernel
theorem dX6_answerTo_29 : decode cX6_answerTo 29 = .ok (.iload 6, 2) := by decide +kernel
theorem dX6_answerTo_31 : decode cX6_answerTo 31 = .ok (.bipush 6, 2) := by decide +kernel
theorem dX6_answerTo_33 : decode cX6_answerTo 33 = .ok (.if_icmp .ge 30, 3) := by decide +kernel
theorem dX6_answerTo_36 : decode cX6_answerTo 36 = .ok (.iload 5, 2) := by decide +kernel
theorem dX6_answerTo_38 : decode cX6_answerTo 38 = .ok (.ifCond .eq 25, 3) := by decide +kernel
theorem dX6_answerTo_41 : decode cX6_answerTo 41 = .ok (.aload 4, 2) := by decide +kernel
theorem dX6_answerTo_43 : decode cX6_answerTo 43 = .ok (.iload 5, 2) := by decide +kernel
theorem dX6_answerTo_45 : decode cX6_answerTo 45 = .ok (.iaload, 1) := by decide +kernel
theorem dX6_answerTo_46 : decode cX6_answerTo 46 = .ok (.ifCond .ne 17, 3) := by decide +kernel
theorem dX6_answerTo_49 : decode cX6_answerTo 49 = .ok (.getstatic 292, 3) := by decide +kernel
theorem dX6_answerTo_52 : decode cX6_answerTo 52 = .ok (.iload 5, 2) := by decide +kernel
theorem dX6_answerTo_54 : decode cX6_answerTo 54 = .ok (.iaload, 1) := by decide +kernel
theorem dX6_answerTo_55 : decode cX6_answerTo 55 = .ok (.istore 5, 2) := by decide +kernel
theorem dX6_answerTo_57 : decode cX6_answerTo 57 = .ok (.iinc 6 1, 3) := by decide +kernel
theorem dX6_answerTo_60 : decode cX6_answerTo 60 = .ok (.goto (-31), 3) := by decide +kernel
theorem dX6_answerTo_63 : decode cX6_answerTo 63 = .ok (.aload_n 0, 1) := by decide +kernel
theorem dX6_answerTo_64 : decode cX6_answerTo 64 = .ok (.aload 4, 2) := by decide +kernel
theorem dX6_answerTo_66 : decode cX6_answerTo 66 = .ok (.iload 5, 2) := by decide +kernel
theorem dX6_answerTo_68 : decode cX6_answerTo 68 = .ok (.iaload, 1) := by decide +kernel
theorem dX6_answerTo_69 : decode cX6_answerTo 69 = .ok (.iload_n 2, 1) := by decide +kernel
theorem dX6_answerTo_70 : decode cX6_answerTo 70 = .ok (.iload_n 3, 1) := by decide +kernel
theorem dX6_answerTo_71 : decode cX6_answerTo 71 = .ok (.iconst 1, 1) := by decide +kernel
theorem dX6_answerTo_72 : decode cX6_answerTo 72 = .ok (.iadd, 1) := by decide +kernel
theorem dX6_answerTo_73 : decode cX6_answerTo 73 = .ok (.invokevirtual 320, 3) := by decide +kernel
theorem dX6_answerTo_76 : decode cX6_answerTo 76 = .ok (.ireturn, 1) := by decide +kernel
theorem dX6_answerOf_0 : decode cX6_answerOf 0 = .ok (.iload_n 3, 1) := by decide +kernel
theorem dX6_answerOf_1 : decode cX6_answerOf 1 = .ok (.bipush 20, 2) := by decide +kernel
theorem dX6_answerOf_3 : decode cX6_answerOf 3 = .ok (.if_icmp .le 5, 3) := by decide +kernel
theorem dX6_answerOf_6 : decode cX6_answerOf 6 = .ok (.iconst 0, 1) := by decide +kernel
theorem dX6_answerOf_7 : decode cX6_answerOf 7 = .ok (.ireturn, 1) := by decide +kernel
theorem dX6_answerOf_8 : decode cX6_answerOf 8 = .ok (.aload_n 0, 1) := by decide +kernel
theorem dX6_answerOf_9 : decode cX6_answerOf 9 = .ok (.iload_n 1, 1) := by decide +kernel
theorem dX6_answerOf_10 : decode cX6_answerOf 10 = .ok (.invokevirtual 323, 3) := by decide +kernel
theorem dX6_answerOf_13 : decode cX6_answerOf 13 = .ok (.iload_n 3, 1) := by decide +kernel
theorem dX6_answerOf_14 : decode cX6_answerOf 14 = .ok (.iconst 1, 1) := by decide +kernel
theorem dX6_answerOf_15 : decode cX6_answerOf 15 = .ok (.iadd, 1) := by decide +kernel
theorem dX6_answerOf_16 : decode cX6_answerOf 16 = .ok (.istore 4, 2) := by decide +kernel
theorem dX6_answerOf_18 : decode cX6_answerOf 18 = .ok (.iload_n 1, 1) := by decide +kernel
theorem dX6_answerOf_19 : decode cX6_answerOf 19 = .ok (.tableswitch 204 10 24 #[73, 83, 102, 113, 126, 204, 204, 204, 204, 204, 138, 140, 159, 173, 192], 73) := by decide +kernel
theorem dX6_answerOf_92 : decode cX6_answerOf 92 = .ok (.aload_n 0, 1) := by decide +kernel
theorem dX6_answerOf_93 : decode cX6_answerOf 93 = .ok (.getfield 25, 3) := by decide +kernel
theorem dX6_answerOf_96 : decode cX6_answerOf 96 = .ok (.getfield 195, 3) := by decide +kernel
theorem dX6_answerOf_99 : decode cX6_answerOf 99 = .ok (.iload_n 2, 1) := by decide +kernel
theorem dX6_answerOf_100 : decode cX6_answerOf 100 = .ok (.iaload, 1) := by decide +kernel
theorem dX6_answerOf_101 : decode cX6_answerOf 101 = .ok (.ireturn, 1) := by decide +kernel
theorem dX6_answerOf_102 : decode cX6_answerOf 102 = .ok (.aload_n 0, 1) := by decide +kernel
theorem dX6_answerOf_103 : decode cX6_answerOf 103 = .ok (.bipush 10, 2) := by decide +kernel
theorem dX6_answerOf_105 : decode cX6_answerOf 105 = .ok (.iload_n 2, 1) := by decide +kernel
theorem dX6_answerOf_106 : decode cX6_answerOf 106 = .ok (.iload 4, 2) := by decide +kernel
theorem dX6_answerOf_108 : decode cX6_answerOf 108 = .ok (.invokevirtual 320, 3) := by decide +kernel
theorem dX6_answerOf_111 : decode cX6_answerOf 111 = .ok (.aload_n 0, 1) := by decide +kernel
theorem dX6_answerOf_112 : decode cX6_answerOf 112 = .ok (.iconst 1, 1) := by decide +kernel
theorem dX6_answerOf_113 : decode cX6_answerOf 113 = .ok (.iload_n 2, 1) := by decide +kernel
theorem dX6_answerOf_114 : decode cX6_answerOf 114 = .ok (.iload 4, 2) := by decide +kernel
theorem dX6_answerOf_116 : decode cX6_answerOf 116 = .ok (.invokevirtual 295, 3) := by decide +kernel
theorem dX6_answerOf_119 : decode cX6_answerOf 119 = .ok (.iadd, 1) := by decide +kernel
theorem dX6_answerOf_120 : decode cX6_answerOf 120 = .ok (.ireturn, 1) := by decide +kernel
theorem dX6_answerOf_121 : decode cX6_answerOf 121 = .ok (.aload_n 0, 1) := by decide +kernel
theorem dX6_answerOf_122 : decode cX6_answerOf 122 = .ok (.bipush 11, 2) := by decide +kernel
theorem dX6_answerOf_124 : decode cX6_answerOf 124 = .ok (.iload_n 2, 1) := by decide +kernel
theorem dX6_answerOf_125 : decode cX6_answerOf 125 = .ok (.iload 4, 2) := by decide +kernel
theorem dX6_answerOf_127 : decode cX6_answerOf 127 = .ok (.invokevirtual 320, 3) := by decide +kernel
theorem dX6_answerOf_130 : decode cX6_answerOf 130 = .ok (.ineg, 1) := by decide +kernel
theorem dX6_answerOf_131 : decode cX6_answerOf 131 = .ok (.ireturn, 1) := by decide +kernel
theorem dX6_answerOf_132 : decode cX6_answerOf 132 = .ok (.aload_n 0, 1) := by decide +kernel
theorem dX6_answerOf_133 : decode cX6_answerOf 133 = .ok (.bipush 10, 2) := by decide +kernel
theorem dX6_answerOf_135 : decode cX6_answerOf 135 = .ok (.iload_n 2, 1) := by decide +kernel
theorem dX6_answerOf_136 : decode cX6_answerOf 136 = .ok (.iload 4, 2) := by decide +kernel
theorem dX6_answerOf_138 : decode cX6_answerOf 138 = .ok (.invokevirtual 320, 3) := by decide +kernel
theorem dX6_answerOf_141 : decode cX6_answerOf 141 = .ok (.bipush 100, 2) := by decide +kernel
theorem dX6_answerOf_143 : decode cX6_answerOf 143 = .ok (.isub, 1) := by decide +kernel
theorem dX6_answerOf_144 : decode cX6_answerOf 144 = .ok (.ireturn, 1) := by decide +kernel
theorem dX6_answerOf_145 : decode cX6_answerOf 145 = .ok (.iconst 2, 1) := by decide +kernel
theorem dX6_answerOf_146 : decode cX6_answerOf 146 = .ok (.aload_n 0, 1) := by decide +kernel
theorem dX6_answerOf_147 : decode cX6_answerOf 147 = .ok (.bipush 13, 2) := by decide +kernel
theorem dX6_answerOf_149 : decode cX6_answerOf 149 = .ok (.iload_n 2, 1) := by decide +kernel
theorem dX6_answerOf_150 : decode cX6_answerOf 150 = .ok (.iload 4, 2) := by decide +kernel
theorem dX6_answerOf_152 : decode cX6_answerOf 152 = .ok (.invokevirtual 320, 3) := by decide +kernel
theorem dX6_answerOf_155 : decode cX6_answerOf 155 = .ok (.imul, 1) := by decide +kernel
theorem dX6_answerOf_156 : decode cX6_answerOf 156 = .ok (.ireturn, 1) := by decide +kernel
theorem dX6_answerOf_157 : decode cX6_answerOf 157 = .ok (.iload_n 2, 1) := by decide +kernel
theorem dX6_answerOf_158 : decode cX6_answerOf 158 = .ok (.ireturn, 1) := by decide +kernel
theorem dX6_answerOf_159 : decode cX6_answerOf 159 = .ok (.aload_n 0, 1) := by decide +kernel
theorem dX6_answerOf_160 : decode cX6_answerOf 160 = .ok (.bipush 20, 2) := by decide +kernel
theorem dX6_answerOf_162 : decode cX6_answerOf 162 = .ok (.iload_n 2, 1) := by decide +kernel
theorem dX6_answerOf_163 : decode cX6_answerOf 163 = .ok (.iload 4, 2) := by decide +kernel
theorem dX6_answerOf_165 : decode cX6_answerOf 165 = .ok (.invokevirtual 320, 3) := by decide +kernel
theorem dX6_answerOf_168 : decode cX6_answerOf 168 = .ok (.aload_n 0, 1) := by decide +kernel
theorem dX6_answerOf_169 : decode cX6_answerOf 169 = .ok (.getfield 25, 3) := by decide +kernel
theorem dX6_answerOf_172 : decode cX6_answerOf 172 = .ok (.iload_n 2, 1) := by decide +kernel
theorem dX6_answerOf_173 : decode cX6_answerOf 173 = .ok (.invokevirtual 245, 3) := by decide +kernel
theorem dX6_answerOf_176 : decode cX6_answerOf 176 = .ok (.iadd, 1) := by decide +kernel
theorem dX6_answerOf_177 : decode cX6_answerOf 177 = .ok (.ireturn, 1) := by decide +kernel
theorem dX6_answerOf_178 : decode cX6_answerOf 178 = .ok (.aload_n 0, 1) := by decide +kernel
theorem dX6_answerOf_179 : decode cX6_answerOf 179 = .ok (.bipush 21, 2) := by decide +kernel
theorem dX6_answerOf_181 : decode cX6_answerOf 181 = .ok (.iload_n 2, 1) := by decide +kernel
theorem dX6_answerOf_182 : decode cX6_answerOf 182 = .ok (.iload 4, 2) := by decide +kernel
theorem dX6_answerOf_184 : decode cX6_answerOf 184 = .ok (.invokevirtual 320, 3) := by decide +kernel
theorem dX6_answerOf_187 : decode cX6_answerOf 187 = .ok (.sipush 1000, 3) := by decide +kernel
theorem dX6_answerOf_190 : decode cX6_answerOf 190 = .ok (.isub, 1) := by decide +kernel
theorem dX6_answerOf_191 : decode cX6_answerOf 191 = .ok (.ireturn, 1) := by decide +kernel
theorem dX6_answerOf_192 : decode cX6_answerOf 192 = .ok (.aload_n 0, 1) := by decide +kernel
theorem dX6_answerOf_193 : decode cX6_answerOf 193 = .ok (.bipush 20, 2) := by decide +kernel
theorem dX6_answerOf_195 : decode cX6_answerOf 195 = .ok (.iload_n 2, 1) := by decide +kernel
theorem dX6_answerOf_196 : decode cX6_answerOf 196 = .ok (.iload 4, 2) := by decide +kernel
theorem dX6_answerOf_198 : decode cX6_answerOf 198 = .ok (.invokevirtual 320, 3) := by decide +kernel
theorem dX6_answerOf_201 : decode cX6_answerOf 201 = .ok (.aload_n 0, 1) := by decide +kernel
theorem dX6_answerOf_202 : decode cX6_answerOf 202 = .ok (.iconst 0, 1) := by decide +kernel
theorem dX6_answerOf_203 : decode cX6_answerOf 203 = .ok (.iload_n 2, 1) := by decide +kernel
theorem dX6_answerOf_204 : decode cX6_answerOf 204 = .ok (.iload 4, 2) := by decide +kernel
theorem dX6_answerOf_206 : decode cX6_answerOf 206 = .ok (.invokevirtual 295, 3) := by decide +kernel
theorem dX6_answerOf_209 : decode cX6_answerOf 209 = .ok (.isub, 1) := by decide +kernel
theorem dX6_answerOf_210 : decode cX6_answerOf 210 = .ok (.ireturn, 1) := by decide +kernel
theorem dX6_answerOf_211 : decode cX6_answerOf 211 = .ok (.iconst 2, 1) := by decide +kernel
theorem dX6_answerOf_212 : decode cX6_answerOf 212 = .ok (.aload_n 0, 1) := by decide +kernel
theorem dX6_answerOf_213 : decode cX6_answerOf 213 = .ok (.bipush 21, 2) := by decide +kernel
theorem dX6_answerOf_215 : decode cX6_answerOf 215 = .ok (.iload_n 2, 1) := by decide +kernel
theorem dX6_answerOf_216 : decode cX6_answerOf 216 = .ok (.iload 4, 2) := by decide +kernel
theorem dX6_answerOf_218 : decode cX6_answerOf 218 = .ok (.invokevirtual 320, 3) := by decide +kernel
theorem dX6_answerOf_221 : decode cX6_answerOf 221 = .ok (.imul, 1) := by decide +kernel
theorem dX6_answerOf_222 : decode cX6_answerOf 222 = .ok (.ireturn, 1) := by decide +kernel
theorem dX6_answerOf_223 : decode cX6_answerOf 223 = .ok (.iconst 0, 1) := by decide +kernel
theorem dX6_answerOf_224 : decode cX6_answerOf 224 = .ok (.ireturn, 1) := by decide +kernel
theorem dX6_leaveTrace_0 : decode cX6_leaveTrace 0 = .ok (.aload_n 0, 1) := by decide +kernel
theorem dX6_leaveTrace_1 : decode cX6_leaveTrace 1 = .ok (.getfield 64, 3) := by decide +kernel
theorem dX6_leaveTrace_4 : decode cX6_leaveTrace 4 = .ok (.bipush 16, 2) := by decide +kernel
theorem dX6_leaveTrace_6 : decode cX6_leaveTrace 6 = .ok (.if_icmp .ge 23, 3) := by decide +kernel
theorem dX6_leaveTrace_9 : decode cX6_leaveTrace 9 = .ok (.aload_n 0, 1) := by decide +kernel
theorem dX6_leaveTrace_10 : decode cX6_leaveTrace 10 = .ok (.getfield 61, 3) := by decide +kernel
theorem dX6_leaveTrace_13 : decode cX6_leaveTrace 13 = .ok (.aload_n 0, 1) := by decide +kernel
theorem dX6_leaveTrace_14 : decode cX6_leaveTrace 14 = .ok (.getfield 64, 3) := by decide +kernel
theorem dX6_leaveTrace_17 : decode cX6_leaveTrace 17 = .ok (.iload_n 1, 1) := by decide +kernel
theorem dX6_leaveTrace_18 : decode cX6_leaveTrace 18 = .ok (.iastore, 1) := by decide +kernel
theorem dX6_leaveTrace_19 : decode cX6_leaveTrace 19 = .ok (.aload_n 0, 1) := by decide +kernel
theorem dX6_leaveTrace_20 : decode cX6_leaveTrace 20 = .ok (.dup, 1) := by decide +kernel
theorem dX6_leaveTrace_21 : decode cX6_leaveTrace 21 = .ok (.getfield 64, 3) := by decide +kernel
theorem dX6_leaveTrace_24 : decode cX6_leaveTrace 24 = .ok (.iconst 1, 1) := by decide +kernel
theorem dX6_leaveTrace_25 : decode cX6_leaveTrace 25 = .ok (.iadd, 1) := by decide +kernel
theorem dX6_leaveTrace_26 : decode cX6_leaveTrace 26 = .ok (.putfield 64, 3) := by decide +kernel
theorem dX6_leaveTrace_29 : decode cX6_leaveTrace 29 = .ok (.return_, 1) := by decide +kernel
