theorem dX7_style_24 : decode cX7_style 24 = .ok (.ifCond .eq 15, 3) := by decide +kernel
theorem dX7_style_27 : decode cX7_style 27 = .ok (.iload_n 2, 1) := by decide +kernel
theorem dX7_style_28 : decode cX7_style 28 = .ok (.i2l, 1) := by decide +kernel
theorem dX7_style_29 : decode cX7_style 29 = .ok (.lconst 0, 1) := by decide +kernel
theorem dX7_style_30 : decode cX7_style 30 = .ok (.ldc2_w 229, 3) := by decide +kernel
theorem dX7_style_33 : decode cX7_style 33 = .ok (.invokestatic 69, 3) := by decide +kernel
theorem dX7_style_36 : decode cX7_style 36 = .ok (.ifCond .ne 6, 3) := by decide +kernel
theorem dX7_style_39 : decode cX7_style 39 = .ok (.ldc 79, 2) := by decide +kernel
theorem dX7_style_41 : decode cX7_style 41 = .ok (.ireturn, 1) := by decide +kernel
theorem dX7_style_42 : decode cX7_style 42 = .ok (.aload_n 0, 1) := by decide +kernel
theorem dX7_style_43 : decode cX7_style 43 = .ok (.invokevirtual 219, 3) := by decide +kernel
theorem dX7_style_46 : decode cX7_style 46 = .ok (.aload_n 0, 1) := by decide +kernel
theorem dX7_style_47 : decode cX7_style 47 = .ok (.getfield 19, 3) := by decide +kernel
theorem dX7_style_50 : decode cX7_style 50 = .ok (.iconst 1, 1) := by decide +kernel
theorem dX7_style_51 : decode cX7_style 51 = .ok (.iload_n 1, 1) := by decide +kernel
theorem dX7_style_52 : decode cX7_style 52 = .ok (.iadd, 1) := by decide +kernel
theorem dX7_style_53 : decode cX7_style 53 = .ok (.iaload, 1) := by decide +kernel
theorem dX7_style_54 : decode cX7_style 54 = .ok (.istore_n 3, 1) := by decide +kernel
theorem dX7_style_55 : decode cX7_style 55 = .ok (.aload_n 0, 1) := by decide +kernel
theorem dX7_style_56 : decode cX7_style 56 = .ok (.getfield 19, 3) := by decide +kernel
theorem dX7_style_59 : decode cX7_style 59 = .ok (.iconst 1, 1) := by decide +kernel
theorem dX7_style_60 : decode cX7_style 60 = .ok (.iload_n 1, 1) := by decide +kernel
theorem dX7_style_61 : decode cX7_style 61 = .ok (.iadd, 1) := by decide +kernel
theorem dX7_style_62 : decode cX7_style 62 = .ok (.iload_n 2, 1) := by decide +kernel
theorem dX7_style_63 : decode cX7_style 63 = .ok (.iastore, 1) := by decide +kernel
theorem dX7_style_64 : decode cX7_style 64 = .ok (.iload_n 3, 1) := by decide +kernel
theorem dX7_style_65 : decode cX7_style 65 = .ok (.ireturn, 1) := by decide +kernel
theorem dX7_undo_0 : decode cX7_undo 0 = .ok (.aload_n 0, 1) := by decide +kernel
theorem dX7_undo_1 : decode cX7_undo 1 = .ok (.iconst 0, 1) := by decide +kernel
theorem dX7_undo_2 : decode cX7_undo 2 = .ok (.putfield 59, 3) := by decide +kernel
theorem dX7_undo_5 : decode cX7_undo 5 = .ok (.aload_n 0, 1) := by decide +kernel
theorem dX7_undo_6 : decode cX7_undo 6 = .ok (.getfield 162, 3) := by decide +kernel
theorem dX7_undo_9 : decode cX7_undo 9 = .ok (.ifCond .ne 6, 3) := by decide +kernel
theorem dX7_undo_12 : decode cX7_undo 12 = .ok (.ldc 214, 2) := by decide +kernel
theorem dX7_undo_14 : decode cX7_undo 14 = .ok (.ireturn, 1) := by decide +kernel
theorem dX7_undo_15 : decode cX7_undo 15 = .ok (.aload_n 0, 1) := by decide +kernel
theorem dX7_undo_16 : decode cX7_undo 16 = .ok (.dup, 1) := by decide +kernel
theorem dX7_undo_17 : decode cX7_undo 17 = .ok (.getfield 162, 3) := by decide +kernel
theorem dX7_undo_20 : decode cX7_undo 20 = .ok (.iconst 1, 1) := by decide +kernel
theorem dX7_undo_21 : decode cX7_undo 21 = .ok (.isub, 1) := by decide +kernel
theorem dX7_undo_22 : decode cX7_undo 22 = .ok (.putfield 162, 3) := by decide +kernel
theorem dX7_undo_25 : decode cX7_undo 25 = .ok (.iconst 0, 1) := by decide +kernel
theorem dX7_undo_26 : decode cX7_undo 26 = .ok (.istore_n 1, 1) := by decide +kernel
theorem dX7_undo_27 : decode cX7_undo 27 = .ok (.iload_n 1, 1) := by decide +kernel
theorem dX7_undo_28 : decode cX7_undo 28 = .ok (.bipush 76, 2) := by decide +kernel
theorem dX7_undo_30 : decode cX7_undo 30 = .ok (.if_icmp .ge 29, 3) := by decide +kernel
theorem dX7_undo_33 : decode cX7_undo 33 = .ok (.aload_n 0, 1) := by decide +kernel
theorem dX7_undo_34 : decode cX7_undo 34 = .ok (.getfield 19, 3) := by decide +kernel
theorem dX7_undo_37 : decode cX7_undo 37 = .ok (.iload_n 1, 1) := by decide +kernel
theorem dX7_undo_38 : decode cX7_undo 38 = .ok (.aload_n 0, 1) := by decide +kernel
theorem dX7_undo_39 : decode cX7_undo 39 = .ok (.getfield 28, 3) := by decide +kernel
theorem dX7_undo_42 : decode cX7_undo 42 = .ok (.bipush 76, 2) := by decide +kernel
theorem dX7_undo_44 : decode cX7_undo 44 = .ok (.aload_n 0, 1) := by decide +kernel
theorem dX7_undo_45 : decode cX7_undo 45 = .ok (.getfield 162, 3) := by decide +kernel
theorem dX7_undo_48 : decode cX7_undo 48 = .ok (.imul, 1) := by decide +kernel
theorem dX7_undo_49 : decode cX7_undo 49 = .ok (.iload_n 1, 1) := by decide +kernel
theorem dX7_undo_50 : decode cX7_undo 50 = .ok (.iadd, 1) := by decide +kernel
theorem dX7_undo_51 : decode cX7_undo 51 = .ok (.iaload, 1) := by decide +kernel
theorem dX7_undo_52 : decode cX7_undo 52 = .ok (.iastore, 1) := by decide +kernel
theorem dX7_undo_53 : decode cX7_undo 53 = .ok (.iinc 1 1, 3) := by decide +kernel
theorem dX7_undo_56 : decode cX7_undo 56 = .ok (.goto (-29), 3) := by decide +kernel
theorem dX7_undo_59 : decode cX7_undo 59 = .ok (.aload_n 0, 1) := by decide +kernel
theorem dX7_undo_60 : decode cX7_undo 60 = .ok (.getfield 162, 3) := by decide +kernel
theorem dX7_undo_63 : decode cX7_undo 63 = .ok (.ireturn, 1) := by decide +kernel
theorem dX7_paragraph_0 : decode cX7_paragraph 0 = .ok (.aload_n 0, 1) := by decide +kernel
theorem dX7_paragraph_1 : decode cX7_paragraph 1 = .ok (.iconst 0, 1) := by decide +kernel
theorem dX7_paragraph_2 : decode cX7_paragraph 2 = .ok (.putfield 59, 3) := by decide +kernel
theorem dX7_paragraph_5 : decode cX7_paragraph 5 = .ok (.aload_n 0, 1) := by decide +kernel
theorem dX7_paragraph_6 : decode cX7_paragraph 6 = .ok (.iload_n 1, 1) := by decide +kernel
theorem dX7_paragraph_7 : decode cX7_paragraph 7 = .ok (.invokevirtual 222, 3) := by decide +kernel
theorem dX7_paragraph_10 : decode cX7_paragraph 10 = .ok (.ifCond .eq 15, 3) := by decide +kernel
theorem dX7_paragraph_13 : decode cX7_paragraph 13 = .ok (.iload_n 2, 1) := by decide +kernel
theorem dX7_paragraph_14 : decode cX7_paragraph 14 = .ok (.i2l, 1) := by decide +kernel
theorem dX7_paragraph_15 : decode cX7_paragraph 15 = .ok (.lconst 0, 1) := by decide +kernel
theorem dX7_paragraph_16 : decode cX7_paragraph 16 = .ok (.ldc2_w 207, 3) := by decide +kernel
theorem dX7_paragraph_19 : decode cX7_paragraph 19 = .ok (.invokestatic 69, 3) := by decide +kernel
theorem dX7_paragraph_22 : decode cX7_paragraph 22 = .ok (.ifCond .ne 6, 3) := by decide +kernel
theorem dX7_paragraph_25 : decode cX7_paragraph 25 = .ok (.ldc 79, 2) := by decide +kernel
theorem dX7_paragraph_27 : decode cX7_paragraph 27 = .ok (.ireturn, 1) := by decide +kernel
theorem dX7_paragraph_28 : decode cX7_paragraph 28 = .ok (.aload_n 0, 1) := by decide +kernel
theorem dX7_paragraph_29 : decode cX7_paragraph 29 = .ok (.aload_n 0, 1) := by decide +kernel
theorem dX7_paragraph_30 : decode cX7_paragraph 30 = .ok (.getfield 19, 3) := by decide +kernel
theorem dX7_paragraph_33 : decode cX7_paragraph 33 = .ok (.invokevirtual 231, 3) := by decide +kernel
theorem dX7_paragraph_36 : decode cX7_paragraph 36 = .ok (.iload_n 2, 1) := by decide +kernel
theorem dX7_paragraph_37 : decode cX7_paragraph 37 = .ok (.iconst 2, 1) := by decide +kernel
theorem dX7_paragraph_38 : decode cX7_paragraph 38 = .ok (.if_icmp .ge 15, 3) := by decide +kernel
theorem dX7_paragraph_41 : decode cX7_paragraph 41 = .ok (.aload_n 0, 1) := by decide +kernel
theorem dX7_paragraph_42 : decode cX7_paragraph 42 = .ok (.getfield 19, 3) := by decide +kernel
theorem dX7_paragraph_45 : decode cX7_paragraph 45 = .ok (.iload_n 1, 1) := by decide +kernel
theorem dX7_paragraph_46 : decode cX7_paragraph 46 = .ok (.iconst 1, 1) := by decide +kernel
theorem dX7_paragraph_47 : decode cX7_paragraph 47 = .ok (.iload_n 2, 1) := by decide +kernel
theorem dX7_paragraph_48 : decode cX7_paragraph 48 = .ok (.iadd, 1) := by decide +kernel
theorem dX7_paragraph_49 : decode cX7_paragraph 49 = .ok (.invokestatic 165, 3) := by decide +kernel
theorem dX7_paragraph_52 : decode cX7_paragraph 52 = .ok (.ireturn, 1) := by decide +kernel
theorem dX7_paragraph_53 : decode cX7_paragraph 53 = .ok (.iload_n 2, 1) := by decide +kernel
theorem dX7_paragraph_54 : decode cX7_paragraph 54 = .ok (.iconst 5, 1) := by decide +kernel
theorem dX7_paragraph_55 : decode cX7_paragraph 55 = .ok (.if_icmp .ge 16, 3) := by decide +kernel
theorem dX7_paragraph_58 : decode cX7_paragraph 58 = .ok (.aload_n 0, 1) := by decide +kernel
theorem dX7_paragraph_59 : decode cX7_paragraph 59 = .ok (.getfield 40, 3) := by decide +kernel
theorem dX7_paragraph_62 : decode cX7_paragraph 62 = .ok (.iconst 3, 1) := by decide +kernel
theorem dX7_paragraph_63 : decode cX7_paragraph 63 = .ok (.iload_n 1, 1) := by decide +kernel
theorem dX7_paragraph_64 : decode cX7_paragraph 64 = .ok (.imul, 1) := by decide +kernel
theorem dX7_paragraph_65 : decode cX7_paragraph 65 = .ok (.iload_n 2, 1) := by decide +kernel
theorem dX7_paragraph_66 : decode cX7_paragraph 66 = .ok (.iadd, 1) := by decide +kernel
theorem dX7_paragraph_67 : decode cX7_paragraph 67 = .ok (.iconst 2, 1) := by decide +kernel
theorem dX7_paragraph_68 : decode cX7_paragraph 68 = .ok (.isub, 1) := by decide +kernel
theorem dX7_paragraph_69 : decode cX7_paragraph 69 = .ok (.iaload, 1) := by decide +kernel
theorem dX7_paragraph_70 : decode cX7_paragraph 70 = .ok (.ireturn, 1) := by decide +kernel
theorem dX7_paragraph_71 : decode cX7_paragraph 71 = .ok (.aload_n 0, 1) := by decide +kernel
theorem dX7_paragraph_72 : decode cX7_paragraph 72 = .ok (.aload_n 0, 1) := by decide +kernel
theorem dX7_paragraph_73 : decode cX7_paragraph 73 = .ok (.getfield 19, 3) := by decide +kernel
theorem dX7_paragraph_76 : decode cX7_paragraph 76 = .ok (.iload_n 1, 1) := by decide +kernel
theorem dX7_paragraph_77 : decode cX7_paragraph 77 = .ok (.iconst 0, 1) := by decide +kernel
theorem dX7_paragraph_78 : decode cX7_paragraph 78 = .ok (.invokevirtual 235, 3) := by decide +kernel
theorem dX7_paragraph_81 : decode cX7_paragraph 81 = .ok (.aload_n 0, 1) := by decide +kernel
theorem dX7_paragraph_82 : decode cX7_paragraph 82 = .ok (.getfield 177, 3) := by decide +kernel
theorem dX7_paragraph_85 : decode cX7_paragraph 85 = .ok (.ireturn, 1) := by decide +kernel
theorem dX7_signAt_0 : decode cX7_signAt 0 = .ok (.iload_n 1, 1) := by decide +kernel
theorem dX7_signAt_1 : decode cX7_signAt 1 = .ok (.aload_n 0, 1) := by decide +kernel
theorem dX7_signAt_2 : decode cX7_signAt 2 = .ok (.getfield 177, 3) := by decide +kernel
theorem dX7_signAt_5 : decode cX7_signAt 5 = .ok (.if_icmp .ge 12, 3) := by decide +kernel
theorem dX7_signAt_8 : decode cX7_signAt 8 = .ok (.aload_n 0, 1) := by decide +kernel
theorem dX7_signAt_9 : decode cX7_signAt 9 = .ok (.getfield 43, 3) := by decide +kernel
theorem dX7_signAt_12 : decode cX7_signAt 12 = .ok (.iload_n 1, 1) := by decide +kernel
theorem dX7_signAt_13 : decode cX7_signAt 13 = .ok (.iaload, 1) := by decide +kernel
theorem dX7_signAt_14 : decode cX7_signAt 14 = .ok (.goto 5, 3) := by decide +kernel
theorem dX7_signAt_17 : decode cX7_signAt 17 = .ok (.ldc 102, 2) := by decide +kernel
theorem dX7_signAt_19 : decode cX7_signAt 19 = .ok (.ireturn, 1) := by decide +kernel
theorem dX7_label_0 : decode cX7_label 0 = .ok (.aload_n 0, 1) := by decide +kernel
theorem dX7_label_1 : decode cX7_label 1 = .ok (.iconst 0, 1) := by decide +kernel
theorem dX7_label_2 : decode cX7_label 2 = .ok (.putfield 59, 3) := by decide +kernel
theorem dX7_label_5 : decode cX7_label 5 = .ok (.aload_n 0, 1) := by decide +kernel
theorem dX7_label_6 : decode cX7_label 6 = .ok (.iload_n 1, 1) := by decide +kernel
theorem dX7_label_7 : decode cX7_label 7 = .ok (.invokevirtual 222, 3) := by decide +kernel
theorem dX7_label_10 : decode cX7_label 10 = .ok (.ifCond .eq 19, 3) := by decide +kernel
theorem dX7_label_13 : decode cX7_label 13 = .ok (.iload_n 2, 1) := by decide +kernel
theorem dX7_label_14 : decode cX7_label 14 = .ok (.i2l, 1) := by decide +kernel
theorem dX7_label_15 : decode cX7_label 15 = .ok (.lconst 0, 1) := by decide +kernel
theorem dX7_label_16 : decode cX7_label 16 = .ok (.ldc2_w 77, 3) := by decide +kernel
theorem dX7_label_19 : decode cX7_label 19 = .ok (.invokestatic 69, 3) := by decide +kernel
theorem dX7_label_22 : decode cX7_label 22 = .ok (.ifCond .eq 7, 3) := by decide +kernel
theorem dX7_label_25 : decode cX7_label 25 = .ok (.iload_n 3, 1) := by decide +kernel
theorem dX7_label_26 : decode cX7_label 26 = .ok (.ifCond .ge 6, 3) := by decide +kernel
theorem dX7_label_29 : decode cX7_label 29 = .ok (.ldc 79, 2) := by decide +kernel
theorem dX7_label_31 : decode cX7_label 31 = .ok (.ireturn, 1) := by decide +kernel
theorem dX7_label_32 : decode cX7_label 32 = .ok (.aload_n 0, 1) := by decide +kernel
theorem dX7_label_33 : decode cX7_label 33 = .ok (.aload_n 0, 1) := by decide +kernel
theorem dX7_label_34 : decode cX7_label 34 = .ok (.getfield 19, 3) := by decide +kernel
theorem dX7_label_37 : decode cX7_label 37 = .ok (.invokevirtual 231, 3) := by decide +kernel
theorem dX7_label_40 : decode cX7_label 40 = .ok (.aload_n 0, 1) := by decide +kernel
theorem dX7_label_41 : decode cX7_label 41 = .ok (.aload_n 0, 1) := by decide +kernel
theorem dX7_label_42 : decode cX7_label 42 = .ok (.getfield 19, 3) := by decide +kernel
theorem dX7_label_45 : decode cX7_label 45 = .ok (.iload_n 1, 1) := by decide +kernel
theorem dX7_label_46 : decode cX7_label 46 = .ok (.iload_n 2, 1) := by decide +kernel
theorem dX7_label_47 : decode cX7_label 47 = .ok (.invokevirtual 235, 3) := by decide +kernel
theorem dX7_label_50 : decode cX7_label 50 = .ok (.aload_n 0, 1) := by decide +kernel
theorem dX7_label_51 : decode cX7_label 51 = .ok (.iload_n 3, 1) := by decide +kernel
theorem dX7_label_52 : decode cX7_label 52 = .ok (.invokevirtual 238, 3) := by decide +kernel
theorem dX7_label_55 : decode cX7_label 55 = .ok (.ireturn, 1) := by decide +kernel
theorem dX7_called_0 : decode cX7_called 0 = .ok (.aload_n 0, 1) := by decide +kernel
theorem dX7_called_1 : decode cX7_called 1 = .ok (.iconst 0, 1) := by decide +kernel
theorem dX7_called_2 : decode cX7_called 2 = .ok (.putfield 59, 3) := by decide +kernel
theorem dX7_called_5 : decode cX7_called 5 = .ok (.aload_n 0, 1) := by decide +kernel
theorem dX7_called_6 : decode cX7_called 6 = .ok (.iload_n 1, 1) := by decide +kernel
theorem dX7_called_7 : decode cX7_called 7 = .ok (.invokevirtual 222, 3) := by decide +kernel
theorem dX7_called_10 : decode cX7_called 10 = .ok (.ifCond .eq 15, 3) := by decide +kernel
theorem dX7_called_13 : decode cX7_called 13 = .ok (.aload_n 0, 1) := by decide +kernel
theorem dX7_called_14 : decode cX7_called 14 = .ok (.iload_n 2, 1) := by decide +kernel
theorem dX7_called_15 : decode cX7_called 15 = .ok (.invokevirtual 222, 3) := by decide +kernel
theorem dX7_called_18 : decode cX7_called 18 = .ok (.ifCond .eq 7, 3) := by decide +kernel
theorem dX7_called_21 : decode cX7_called 21 = .ok (.iload_n 3, 1) := by decide +kernel
theorem dX7_called_22 : decode cX7_called 22 = .ok (.ifCond .ge 6, 3) := by decide +kernel
theorem dX7_called_25 : decode cX7_called 25 = .ok (.ldc 79, 2) := by decide +kernel
theorem dX7_called_27 : decode cX7_called 27 = .ok (.ireturn, 1) := by decide +kernel
theorem dX7_called_28 : decode cX7_called 28 = .ok (.aload_n 0, 1) := by decide +kernel
theorem dX7_called_29 : decode cX7_called 29 = .ok (.aload_n 0, 1) := by decide +kernel
theorem dX7_called_30 : decode cX7_called 30 = .ok (.getfield 19, 3) := by decide +kernel
theorem dX7_called_33 : decode cX7_called 33 = .ok (.invokevirtual 231, 3) := by decide +kernel
theorem dX7_called_36 : decode cX7_called 36 = .ok (.iconst 0, 1) := by decide +kernel
theorem dX7_called_37 : decode cX7_called 37 = .ok (.istore 4, 2) := by decide +kernel
theorem dX7_called_39 : decode cX7_called 39 = .ok (.iload 4, 2) := by decide +kernel
theorem dX7_called_41 : decode cX7_called 41 = .ok (.aload_n 0, 1) := by decide +kernel
theorem dX7_called_42 : decode cX7_called 42 = .ok (.getfield 19, 3) := by decide +kernel
theorem dX7_called_45 : decode cX7_called 45 = .ok (.iload_n 1, 1) := by decide +kernel
theorem dX7_called_46 : decode cX7_called 46 = .ok (.iconst 1, 1) := by decide +kernel
theorem dX7_called_47 : decode cX7_called 47 = .ok (.invokestatic 165, 3) := by decide +kernel
theorem dX7_called_50 : decode cX7_called 50 = .ok (.if_icmp .ge 34, 3) := by decide +kernel
theorem dX7_called_53 : decode cX7_called 53 = .ok (.aload_n 0, 1) := by decide +kernel
theorem dX7_called_54 : decode cX7_called 54 = .ok (.getfield 40, 3) := by decide +kernel
theorem dX7_called_57 : decode cX7_called 57 = .ok (.iconst 3, 1) := by decide +kernel
theorem dX7_called_58 : decode cX7_called 58 = .ok (.iload_n 1, 1) := by decide +kernel
theorem dX7_called_59 : decode cX7_called 59 = .ok (.imul, 1) := by decide +kernel
theorem dX7_called_60 : decode cX7_called 60 = .ok (.iload 4, 2) := by decide +kernel
theorem dX7_called_62 : decode cX7_called 62 = .ok (.iadd, 1) := by decide +kernel
theorem dX7_called_63 : decode cX7_called 63 = .ok (.iaload, 1) := by decide +kernel
theorem dX7_called_64 : decode cX7_called 64 = .ok (.aload_n 0, 1) := by decide +kernel
theorem dX7_called_65 : decode cX7_called 65 = .ok (.getfield 40, 3) := by decide +kernel
theorem dX7_called_68 : decode cX7_called 68 = .ok (.iconst 3, 1) := by decide +kernel
theorem dX7_called_69 : decode cX7_called 69 = .ok (.iload_n 2, 1) := by decide +kernel
theorem dX7_called_70 : decode cX7_called 70 = .ok (.imul, 1) := by decide +kernel
theorem dX7_called_71 : decode cX7_called 71 = .ok (.iload 4, 2) := by decide +kernel
theorem dX7_called_73 : decode cX7_called 73 = .ok (.iadd, 1) := by decide +kernel
theorem dX7_called_74 : decode cX7_called 74 = .ok (.iaload, 1) := by decide +kernel
theorem dX7_called_75 : decode cX7_called 75 = .ok (.if_icmp .ne 9, 3) := by decide +kernel
theorem dX7_called_78 : decode cX7_called 78 = .ok (.iinc 4 1, 3) := by decide +kernel
theorem dX7_called_81 : decode cX7_called 81 = .ok (.goto (-42), 3) := by decide +kernel
theorem dX7_called_84 : decode cX7_called 84 = .ok (.aload_n 0, 1) := by decide +kernel
theorem dX7_called_85 : decode cX7_called 85 = .ok (.aload_n 0, 1) := by decide +kernel
theorem dX7_called_86 : decode cX7_called 86 = .ok (.getfield 19, 3) := by decide +kernel
theorem dX7_called_89 : decode cX7_called 89 = .ok (.iload_n 1, 1) := by decide +kernel
theorem dX7_called_90 : decode cX7_called 90 = .ok (.iload 4, 2) := by decide +kernel
theorem dX7_called_92 : decode cX7_called 92 = .ok (.invokevirtual 235, 3) := by decide +kernel
theorem dX7_called_95 : decode cX7_called 95 = .ok (.aload_n 0, 1) := by decide +kernel
theorem dX7_called_96 : decode cX7_called 96 = .ok (.iload_n 3, 1) := by decide +kernel
theorem dX7_called_97 : decode cX7_called 97 = .ok (.invokevirtual 238, 3) := by decide +kernel
theorem dX7_called_100 : decode cX7_called 100 = .ok (.ireturn, 1) := by decide +kernel
theorem dX7_span_0 : decode cX7_span 0 = .ok (.aload_n 0, 1) := by decide +kernel
theorem dX7_span_1 : decode cX7_span 1 = .ok (.iconst 0, 1) := by decide +kernel
theorem dX7_span_2 : decode cX7_span 2 = .ok (.putfield 59, 3) := by decide +kernel
theorem dX7_span_5 : decode cX7_span 5 = .ok (.aload_n 0, 1) := by decide +kernel
theorem dX7_span_6 : decode cX7_span 6 = .ok (.iload_n 1, 1) := by decide +kernel
theorem dX7_span_7 : decode cX7_span 7 = .ok (.invokevirtual 222, 3) := by decide +kernel
theorem dX7_span_10 : decode cX7_span 10 = .ok (.ifCond .eq 39, 3) := by decide +kernel
theorem dX7_span_13 : decode cX7_span 13 = .ok (.aload_n 0, 1) := by decide +kernel
theorem dX7_span_14 : decode cX7_span 14 = .ok (.iload_n 2, 1) := by decide +kernel
theorem dX7_span_15 : decode cX7_span 15 = .ok (.invokevirtual 222, 3) := by decide +kernel
theorem dX7_span_18 : decode cX7_span 18 = .ok (.ifCond .eq 31, 3) := by decide +kernel
theorem dX7_span_21 : decode cX7_span 21 = .ok (.iload_n 1, 1) := by decide +kernel
theorem dX7_span_22 : decode cX7_span 22 = .ok (.iload_n 2, 1) := by decide +kernel
theorem dX7_span_23 : decode cX7_span 23 = .ok (.if_icmp .gt 26, 3) := by decide +kernel
theorem dX7_span_26 : decode cX7_span 26 = .ok (.iload_n 3, 1) := by decide +kernel
theorem dX7_span_27 : decode cX7_span 27 = .ok (.i2l, 1) := by decide +kernel
theorem dX7_span_28 : decode cX7_span 28 = .ok (.lconst 0, 1) := by decide +kernel
theorem dX7_span_29 : decode cX7_span 29 = .ok (.ldc2_w 207, 3) := by decide +kernel
theorem dX7_span_32 : decode cX7_span 32 = .ok (.invokestatic 69, 3) := by decide +kernel
theorem dX7_span_35 : decode cX7_span 35 = .ok (.ifCond .eq 14, 3) := by decide +kernel
theorem dX7_span_38 : decode cX7_span 38 = .ok (.iload 4, 2) := by decide +kernel
theorem dX7_span_40 : decode cX7_span 40 = .ok (.i2l, 1) := by decide +kernel
theorem dX7_span_41 : decode cX7_span 41 = .ok (.lconst 0, 1) := by decide +kernel
theorem dX7_span_42 : decode cX7_span 42 = .ok (.lconst 1, 1) := by decide +kernel
theorem dX7_span_43 : decode cX7_span 43 = .ok (.invokestatic 69, 3) := by decide +kernel
theorem dX7_span_46 : decode cX7_span 46 = .ok (.ifCond .ne 6, 3) := by decide +kernel
theorem dX7_span_49 : decode cX7_span 49 = .ok (.ldc 79, 2) := by decide +kernel
theorem dX7_span_51 : decode cX7_span 51 = .ok (.ireturn, 1) := by decide +kernel
theorem dX7_span_52 : decode cX7_span 52 = .ok (.iconst 0, 1) := by decide +kernel
theorem dX7_span_53 : decode cX7_span 53 = .ok (.istore 5, 2) := by decide +kernel
theorem dX7_span_55 : decode cX7_span 55 = .ok (.iload 5, 2) := by decide +kernel
theorem dX7_span_57 : decode cX7_span 57 = .ok (.bipush 6, 2) := by decide +kernel
theorem dX7_span_59 : decode cX7_span 59 = .ok (.if_icmp .ge 18, 3) := by decide +kernel
theorem dX7_span_62 : decode cX7_span 62 = .ok (.aload_n 0, 1) := by decide +kernel
theorem dX7_span_63 : decode cX7_span 63 = .ok (.iload 5, 2) := by decide +kernel
theorem dX7_span_65 : decode cX7_span 65 = .ok (.iload 5, 2) := by decide +kernel
theorem dX7_span_67 : decode cX7_span 67 = .ok (.iconst 0, 1) := by decide +kernel
theorem dX7_span_68 : decode cX7_span 68 = .ok (.invokevirtual 169, 3) := by decide +kernel
theorem dX7_span_71 : decode cX7_span 71 = .ok (.iinc 5 1, 3) := by decide +kernel
theorem dX7_span_74 : decode cX7_span 74 = .ok (.goto (-19), 3) := by decide +kernel
theorem dX7_span_77 : decode cX7_span 77 = .ok (.iload_n 1, 1) := by decide +kernel
theorem dX7_span_78 : decode cX7_span 78 = .ok (.istore 5, 2) := by decide +kernel
theorem dX7_span_80 : decode cX7_span 80 = .ok (.iload 5, 2) := by decide +kernel
theorem dX7_span_82 : decode cX7_span 82 = .ok (.iload_n 2, 1) := by decide +kernel
theorem dX7_span_83 : decode cX7_span 83 = .ok (.if_icmp .gt 19, 3) := by decide +kernel
theorem dX7_span_86 : decode cX7_span 86 = .ok (.aload_n 0, 1) := by decide +kernel
theorem dX7_span_87 : decode cX7_span 87 = .ok (.aload_n 0, 1) := by decide +kernel
theorem dX7_span_88 : decode cX7_span 88 = .ok (.getfield 19, 3) := by decide +kernel
theorem dX7_span_91 : decode cX7_span 91 = .ok (.iload 5, 2) := by decide +kernel
theorem dX7_span_93 : decode cX7_span 93 = .ok (.invokevirtual 173, 3) := by decide +kernel
theorem dX7_span_96 : decode cX7_span 96 = .ok (.iinc 5 1, 3) := by decide +kernel
theorem dX7_span_99 : decode cX7_span 99 = .ok (.goto (-19), 3) := by decide +kernel
theorem dX7_span_102 : decode cX7_span 102 = .ok (.iload 4, 2) := by decide +kernel
theorem dX7_span_104 : decode cX7_span 104 = .ok (.ifCond .ne 12, 3) := by decide +kernel
theorem dX7_span_107 : decode cX7_span 107 = .ok (.aload_n 0, 1) := by decide +kernel
theorem dX7_span_108 : decode cX7_span 108 = .ok (.getfield 34, 3) := by decide +kernel
theorem dX7_span_111 : decode cX7_span 111 = .ok (.iload_n 3, 1) := by decide +kernel
theorem dX7_span_112 : decode cX7_span 112 = .ok (.iaload, 1) := by decide +kernel
theorem dX7_span_113 : decode cX7_span 113 = .ok (.goto 9, 3) := by decide +kernel
theorem dX7_span_116 : decode cX7_span 116 = .ok (.aload_n 0, 1) := by decide +kernel
theorem dX7_span_117 : decode cX7_span 117 = .ok (.getfield 37, 3) := by decide +kernel
theorem dX7_span_120 : decode cX7_span 120 = .ok (.iload_n 3, 1) := by decide +kernel
theorem dX7_span_121 : decode cX7_span 121 = .ok (.iaload, 1) := by decide +kernel
theorem dX7_span_122 : decode cX7_span 122 = .ok (.ireturn, 1) := by decide +kernel
theorem dX7_holdLabel_0 : decode cX7_holdLabel 0 = .ok (.aload_n 0, 1) := by decide +kernel
theorem dX7_holdLabel_1 : decode cX7_holdLabel 1 = .ok (.aload_n 0, 1) := by decide +kernel
theorem dX7_holdLabel_2 : decode cX7_holdLabel 2 = .ok (.getfield 177, 3) := by decide +kernel
theorem dX7_holdLabel_5 : decode cX7_holdLabel 5 = .ok (.putfield 241, 3) := by decide +kernel
theorem dX7_holdLabel_8 : decode cX7_holdLabel 8 = .ok (.iconst 0, 1) := by decide +kernel
theorem dX7_holdLabel_9 : decode cX7_holdLabel 9 = .ok (.istore_n 1, 1) := by decide +kernel
theorem dX7_holdLabel_10 : decode cX7_holdLabel 10 = .ok (.iload_n 1, 1) := by decide +kernel
theorem dX7_holdLabel_11 : decode cX7_holdLabel 11 = .ok (.aload_n 0, 1) := by decide +kernel
theorem dX7_holdLabel_12 : decode cX7_holdLabel 12 = .ok (.getfield 177, 3) := by decide +kernel
theorem dX7_holdLabel_15 : decode cX7_holdLabel 15 = .ok (.if_icmp .ge 21, 3) := by decide +kernel
theorem dX7_holdLabel_18 : decode cX7_holdLabel 18 = .ok (.aload_n 0, 1) := by decide +kernel
theorem dX7_holdLabel_19 : decode cX7_holdLabel 19 = .ok (.getfield 46, 3) := by decide +kernel
theorem dX7_holdLabel_22 : decode cX7_holdLabel 22 = .ok (.iload_n 1, 1) := by decide +kernel
theorem dX7_holdLabel_23 : decode cX7_holdLabel 23 = .ok (.aload_n 0, 1) := by decide +kernel
theorem dX7_holdLabel_24 : decode cX7_holdLabel 24 = .ok (.getfield 43, 3) := by decide +kernel
theorem dX7_holdLabel_27 : decode cX7_holdLabel 27 = .ok (.iload_n 1, 1) := by decide +kernel
theorem dX7_holdLabel_28 : decode cX7_holdLabel 28 = .ok (.iaload, 1) := by decide +kernel
theorem dX7_holdLabel_29 : decode cX7_holdLabel 29 = .ok (.iastore, 1) := by decide +kernel
theorem dX7_holdLabel_30 : decode cX7_holdLabel 30 = .ok (.iinc 1 1, 3) := by decide +kernel
theorem dX7_holdLabel_33 : decode cX7_holdLabel 33 = .ok (.goto (-23), 3) := by decide +kernel
theorem dX7_holdLabel_36 : decode cX7_holdLabel 36 = .ok (.return_, 1) := by decide +kernel
theorem dX7_compared_0 : decode cX7_compared 0 = .ok (.iconst 0, 1) := by decide +kernel
theorem dX7_compared_1 : decode cX7_compared 1 = .ok (.istore_n 1, 1) := by decide +kernel
theorem dX7_compared_2 : decode cX7_compared 2 = .ok (.iload_n 1, 1) := by decide +kernel
theorem dX7_compared_3 : decode cX7_compared 3 = .ok (.aload_n 0, 1) := by decide +kernel
theorem dX7_compared_4 : decode cX7_compared 4 = .ok (.getfield 177, 3) := by decide +kernel
theorem dX7_compared_7 : decode cX7_compared 7 = .ok (.if_icmp .ge 46, 3) := by decide +kernel
theorem dX7_compared_10 : decode cX7_compared 10 = .ok (.iload_n 1, 1) := by decide +kernel
theorem dX7_compared_11 : decode cX7_compared 11 = .ok (.aload_n 0, 1) := by decide +kernel
theorem dX7_compared_12 : decode cX7_compared 12 = .ok (.getfield 241, 3) := by decide +kernel
theorem dX7_compared_15 : decode cX7_compared 15 = .ok (.if_icmp .ge 38, 3) := by decide +kernel
theorem dX7_compared_18 : decode cX7_compared 18 = .ok (.aload_n 0, 1) := by decide +kernel
theorem dX7_compared_19 : decode cX7_compared 19 = .ok (.getfield 43, 3) := by decide +kernel
theorem dX7_compared_22 : decode cX7_compared 22 = .ok (.iload_n 1, 1) := by decide +kernel
theorem dX7_compared_23 : decode cX7_compared 23 = .ok (.iaload, 1) := by decide +kernel
theorem dX7_compared_24 : decode cX7_compared 24 = .ok (.aload_n 0, 1) := by decide +kernel
theorem dX7_compared_25 : decode cX7_compared 25 = .ok (.getfield 46, 3) := by decide +kernel
theorem dX7_compared_28 : decode cX7_compared 28 = .ok (.iload_n 1, 1) := by decide +kernel
theorem dX7_compared_29 : decode cX7_compared 29 = .ok (.iaload, 1) := by decide +kernel
theorem dX7_compared_30 : decode cX7_compared 30 = .ok (.if_icmp .eq 17, 3) := by decide +kernel
theorem dX7_compared_33 : decode cX7_compared 33 = .ok (.aload_n 0, 1) := by decide +kernel
theorem dX7_compared_34 : decode cX7_compared 34 = .ok (.getfield 43, 3) := by decide +kernel
theorem dX7_compared_37 : decode cX7_compared 37 = .ok (.iload_n 1, 1) := by decide +kernel
theorem dX7_compared_38 : decode cX7_compared 38 = .ok (.iaload, 1) := by decide +kernel
theorem dX7_compared_39 : decode cX7_compared 39 = .ok (.aload_n 0, 1) := by decide +kernel
theorem dX7_compared_40 : decode cX7_compared 40 = .ok (.getfield 46, 3) := by decide +kernel
theorem dX7_compared_43 : decode cX7_compared 43 = .ok (.iload_n 1, 1) := by decide +kernel
theorem dX7_compared_44 : decode cX7_compared 44 = .ok (.iaload, 1) := by decide +kernel
theorem dX7_compared_45 : decode cX7_compared 45 = .ok (.isub, 1) := by decide +kernel
theorem dX7_compared_46 : decode cX7_compared 46 = .ok (.ireturn, 1) := by decide +kernel
theorem dX7_compared_47 : decode cX7_compared 47 = .ok (.iinc 1 1, 3) := by decide +kernel
theorem dX7_compared_50 : decode cX7_compared 50 = .ok (.goto (-48), 3) := by decide +kernel
theorem dX7_compared_53 : decode cX7_compared 53 = .ok (.aload_n 0, 1) := by decide +kernel
theorem dX7_compared_54 : decode cX7_compared 54 = .ok (.getfield 177, 3) := by decide +kernel
theorem dX7_compared_57 : decode cX7_compared 57 = .ok (.aload_n 0, 1) := by decide +kernel
theorem dX7_compared_58 : decode cX7_compared 58 = .ok (.getfield 241, 3) := by decide +kernel
theorem dX7_compared_61 : decode cX7_compared 61 = .ok (.isub, 1) := by decide +kernel
theorem dX7_compared_62 : decode cX7_compared 62 = .ok (.ireturn, 1) := by decide +kernel
theorem dX7_register_0 : decode cX7_register 0 = .ok (.aload_n 0, 1) := by decide +kernel
theorem dX7_register_1 : decode cX7_register 1 = .ok (.iconst 0, 1) := by decide +kernel
theorem dX7_register_2 : decode cX7_register 2 = .ok (.putfield 59, 3) := by decide +kernel
theorem dX7_register_5 : decode cX7_register 5 = .ok (.aload_n 0, 1) := by decide +kernel
theorem dX7_register_6 : decode cX7_register 6 = .ok (.invokevirtual 211, 3) := by decide +kernel
theorem dX7_register_9 : decode cX7_register 9 = .ok (.ifCond .ne 6, 3) := by decide +kernel
theorem dX7_register_12 : decode cX7_register 12 = .ok (.ldc 214, 2) := by decide +kernel
theorem dX7_register_14 : decode cX7_register 14 = .ok (.ireturn, 1) := by decide +kernel
theorem dX7_register_15 : decode cX7_register 15 = .ok (.iload_n 1, 1) := by decide +kernel
theorem dX7_register_16 : decode cX7_register 16 = .ok (.ifCond .ge 6, 3) := by decide +kernel
theorem dX7_register_19 : decode cX7_register 19 = .ok (.ldc 79, 2) := by decide +kernel
theorem dX7_register_21 : decode cX7_register 21 = .ok (.ireturn, 1) := by decide +kernel
theorem dX7_register_22 : decode cX7_register 22 = .ok (.aload_n 0, 1) := by decide +kernel
theorem dX7_register_23 : decode cX7_register 23 = .ok (.aload_n 0, 1) := by decide +kernel
theorem dX7_register_24 : decode cX7_register 24 = .ok (.getfield 19, 3) := by decide +kernel
theorem dX7_register_27 : decode cX7_register 27 = .ok (.invokevirtual 231, 3) := by decide +kernel
theorem dX7_register_30 : decode cX7_register 30 = .ok (.iconst 0, 1) := by decide +kernel
theorem dX7_register_31 : decode cX7_register 31 = .ok (.istore_n 2, 1) := by decide +kernel
theorem dX7_register_32 : decode cX7_register 32 = .ok (.iload_n 2, 1) := by decide +kernel
theorem dX7_register_33 : decode cX7_register 33 = .ok (.aload_n 0, 1) := by decide +kernel
theorem dX7_register_34 : decode cX7_register 34 = .ok (.getfield 19, 3) := by decide +kernel
theorem dX7_register_37 : decode cX7_register 37 = .ok (.iconst 0, 1) := by decide +kernel
theorem dX7_register_38 : decode cX7_register 38 = .ok (.iaload, 1) := by decide +kernel
theorem dX7_register_39 : decode cX7_register 39 = .ok (.if_icmp .ge 116, 3) := by decide +kernel
theorem dX7_register_42 : decode cX7_register 42 = .ok (.aload_n 0, 1) := by decide +kernel
theorem dX7_register_43 : decode cX7_register 43 = .ok (.getfield 19, 3) := by decide +kernel
theorem dX7_register_46 : decode cX7_register 46 = .ok (.iload_n 2, 1) := by decide +kernel
theorem dX7_register_47 : decode cX7_register 47 = .ok (.invokestatic 194, 3) := by decide +kernel
theorem dX7_register_50 : decode cX7_register 50 = .ok (.ifCond .eq 99, 3) := by decide +kernel
theorem dX7_register_53 : decode cX7_register 53 = .ok (.aload_n 0, 1) := by decide +kernel
theorem dX7_register_54 : decode cX7_register 54 = .ok (.aload_n 0, 1) := by decide +kernel
theorem dX7_register_55 : decode cX7_register 55 = .ok (.getfield 19, 3) := by decide +kernel
theorem dX7_register_58 : decode cX7_register 58 = .ok (.iload_n 2, 1) := by decide +kernel
theorem dX7_register_59 : decode cX7_register 59 = .ok (.iconst 0, 1) := by decide +kernel
theorem dX7_register_60 : decode cX7_register 60 = .ok (.invokevirtual 235, 3) := by decide +kernel
theorem dX7_register_63 : decode cX7_register 63 = .ok (.aload_n 0, 1) := by decide +kernel
theorem dX7_register_64 : decode cX7_register 64 = .ok (.invokevirtual 244, 3) := by decide +kernel
theorem dX7_register_67 : decode cX7_register 67 = .ok (.iconst 0, 1) := by decide +kernel
theorem dX7_register_68 : decode cX7_register 68 = .ok (.istore_n 3, 1) := by decide +kernel
theorem dX7_register_69 : decode cX7_register 69 = .ok (.iconst 0, 1) := by decide +kernel
theorem dX7_register_70 : decode cX7_register 70 = .ok (.istore 4, 2) := by decide +kernel
theorem dX7_register_72 : decode cX7_register 72 = .ok (.iload 4, 2) := by decide +kernel
theorem dX7_register_74 : decode cX7_register 74 = .ok (.aload_n 0, 1) := by decide +kernel
theorem dX7_register_75 : decode cX7_register 75 = .ok (.getfield 19, 3) := by decide +kernel
theorem dX7_register_78 : decode cX7_register 78 = .ok (.iconst 0, 1) := by decide +kernel
theorem dX7_register_79 : decode cX7_register 79 = .ok (.iaload, 1) := by decide +kernel
theorem dX7_register_80 : decode cX7_register 80 = .ok (.if_icmp .ge 62, 3) := by decide +kernel
theorem dX7_register_83 : decode cX7_register 83 = .ok (.aload_n 0, 1) := by decide +kernel
theorem dX7_register_84 : decode cX7_register 84 = .ok (.getfield 19, 3) := by decide +kernel
theorem dX7_register_87 : decode cX7_register 87 = .ok (.iload 4, 2) := by decide +kernel
theorem dX7_register_89 : decode cX7_register 89 = .ok (.invokestatic 194, 3) := by decide +kernel
theorem dX7_register_92 : decode cX7_register 92 = .ok (.ifCond .eq 44, 3) := by decide +kernel
theorem dX7_register_95 : decode cX7_register 95 = .ok (.aload_n 0, 1) := by decide +kernel
theorem dX7_register_96 : decode cX7_register 96 = .ok (.aload_n 0, 1) := by decide +kernel
theorem dX7_register_97 : decode cX7_register 97 = .ok (.getfield 19, 3) := by decide +kernel
theorem dX7_register_100 : decode cX7_register 100 = .ok (.iload 4, 2) := by decide +kernel
theorem dX7_register_102 : decode cX7_register 102 = .ok (.iconst 0, 1) := by decide +kernel
theorem dX7_register_103 : decode cX7_register 103 = .ok (.invokevirtual 235, 3) := by decide +kernel
theorem dX7_register_106 : decode cX7_register 106 = .ok (.aload_n 0, 1) := by decide +kernel
theorem dX7_register_107 : decode cX7_register 107 = .ok (.invokevirtual 247, 3) := by decide +kernel
theorem dX7_register_110 : decode cX7_register 110 = .ok (.istore 5, 2) := by decide +kernel
theorem dX7_register_112 : decode cX7_register 112 = .ok (.iload_n 3, 1) := by decide +kernel
theorem dX7_register_113 : decode cX7_register 113 = .ok (.iload 5, 2) := by decide +kernel
theorem dX7_register_115 : decode cX7_register 115 = .ok (.ifCond .lt 14, 3) := by decide +kernel
theorem dX7_register_118 : decode cX7_register 118 = .ok (.iload 5, 2) := by decide +kernel
theorem dX7_register_120 : decode cX7_register 120 = .ok (.ifCond .ne 13, 3) := by decide +kernel
theorem dX7_register_123 : decode cX7_register 123 = .ok (.iload 4, 2) := by decide +kernel
theorem dX7_register_125 : decode cX7_register 125 = .ok (.iload_n 2, 1) := by decide +kernel
theorem dX7_register_126 : decode cX7_register 126 = .ok (.if_icmp .ge 7, 3) := by decide +kernel
theorem dX7_register_129 : decode cX7_register 129 = .ok (.iconst 1, 1) := by decide +kernel
theorem dX7_register_130 : decode cX7_register 130 = .ok (.goto 4, 3) := by decide +kernel
theorem dX7_register_133 : decode cX7_register 133 = .ok (.iconst 0, 1) := by decide +kernel
theorem dX7_register_134 : decode cX7_register 134 = .ok (.iadd, 1) := by decide +kernel
theorem dX7_register_135 : decode cX7_register 135 = .ok (.istore_n 3, 1) := by decide +kernel
theorem dX7_register_136 : decode cX7_register 136 = .ok (.iinc 4 1, 3) := by decide +kernel
theorem dX7_register_139 : decode cX7_register 139 = .ok (.goto (-67), 3) := by decide +kernel
theorem dX7_register_142 : decode cX7_register 142 = .ok (.iload_n 3, 1) := by decide +kernel
theorem dX7_register_143 : decode cX7_register 143 = .ok (.iload_n 1, 1) := by decide +kernel
theorem dX7_register_144 : decode cX7_register 144 = .ok (.if_icmp .ne 5, 3) := by decide +kernel
theorem dX7_register_147 : decode cX7_register 147 = .ok (.iload_n 2, 1) := by decide +kernel
theorem dX7_register_148 : decode cX7_register 148 = .ok (.ireturn, 1) := by decide +kernel
theorem dX7_register_149 : decode cX7_register 149 = .ok (.iinc 2 1, 3) := by decide +kernel
theorem dX7_register_152 : decode cX7_register 152 = .ok (.goto (-120), 3) := by decide +kernel
theorem dX7_register_155 : decode cX7_register 155 = .ok (.ldc 102, 2) := by decide +kernel
theorem dX7_register_157 : decode cX7_register 157 = .ok (.ireturn, 1) := by decide +kernel
theorem dX7_rowFound_0 : decode cX7_rowFound 0 = .ok (.aload_n 0, 1) := by decide +kernel
theorem dX7_rowFound_1 : decode cX7_rowFound 1 = .ok (.getfield 7, 3) := by decide +kernel
theorem dX7_rowFound_4 : decode cX7_rowFound 4 = .ok (.iload_n 1, 1) := by decide +kernel
theorem dX7_rowFound_5 : decode cX7_rowFound 5 = .ok (.iaload, 1) := by decide +kernel
theorem dX7_rowFound_6 : decode cX7_rowFound 6 = .ok (.ifCond .ge 9, 3) := by decide +kernel
theorem dX7_rowFound_9 : decode cX7_rowFound 9 = .ok (.aload_n 0, 1) := by decide +kernel
theorem dX7_rowFound_10 : decode cX7_rowFound 10 = .ok (.iconst 1, 1) := by decide +kernel
theorem dX7_rowFound_11 : decode cX7_rowFound 11 = .ok (.invokevirtual 80, 3) := by decide +kernel
theorem dX7_rowFound_14 : decode cX7_rowFound 14 = .ok (.ireturn, 1) := by decide +kernel
theorem dX7_rowFound_15 : decode cX7_rowFound 15 = .ok (.iload_n 2, 1) := by decide +kernel
theorem dX7_rowFound_16 : decode cX7_rowFound 16 = .ok (.ifCond .lt 19, 3) := by decide +kernel
theorem dX7_rowFound_19 : decode cX7_rowFound 19 = .ok (.iload_n 2, 1) := by decide +kernel
theorem dX7_rowFound_20 : decode cX7_rowFound 20 = .ok (.i2l, 1) := by decide +kernel
theorem dX7_rowFound_21 : decode cX7_rowFound 21 = .ok (.iload_n 3, 1) := by decide +kernel
theorem dX7_rowFound_22 : decode cX7_rowFound 22 = .ok (.i2l, 1) := by decide +kernel
theorem dX7_rowFound_23 : decode cX7_rowFound 23 = .ok (.ladd, 1) := by decide +kernel
theorem dX7_rowFound_24 : decode cX7_rowFound 24 = .ok (.aload_n 0, 1) := by decide +kernel
theorem dX7_rowFound_25 : decode cX7_rowFound 25 = .ok (.getfield 13, 3) := by decide +kernel
theorem dX7_rowFound_28 : decode cX7_rowFound 28 = .ok (.iload_n 1, 1) := by decide +kernel
theorem dX7_rowFound_29 : decode cX7_rowFound 29 = .ok (.iaload, 1) := by decide +kernel
theorem dX7_rowFound_30 : decode cX7_rowFound 30 = .ok (.i2l, 1) := by decide +kernel
theorem dX7_rowFound_31 : decode cX7_rowFound 31 = .ok (.lcmp, 1) := by decide +kernel
theorem dX7_rowFound_32 : decode cX7_rowFound 32 = .ok (.ifCond .le 9, 3) := by decide +kernel
theorem dX7_rowFound_35 : decode cX7_rowFound 35 = .ok (.aload_n 0, 1) := by decide +kernel
theorem dX7_rowFound_36 : decode cX7_rowFound 36 = .ok (.iconst 2, 1) := by decide +kernel
theorem dX7_rowFound_37 : decode cX7_rowFound 37 = .ok (.invokevirtual 80, 3) := by decide +kernel
theorem dX7_rowFound_40 : decode cX7_rowFound 40 = .ok (.ireturn, 1) := by decide +kernel
theorem dX7_rowFound_41 : decode cX7_rowFound 41 = .ok (.aload_n 0, 1) := by decide +kernel
theorem dX7_rowFound_42 : decode cX7_rowFound 42 = .ok (.iconst 0, 1) := by decide +kernel
theorem dX7_rowFound_43 : decode cX7_rowFound 43 = .ok (.putfield 63, 3) := by decide +kernel
theorem dX7_rowFound_46 : decode cX7_rowFound 46 = .ok (.iconst 0, 1) := by decide +kernel
theorem dX7_rowFound_47 : decode cX7_rowFound 47 = .ok (.ireturn, 1) := by decide +kernel
theorem dX7_bears_0 : decode cX7_bears 0 = .ok (.aload_n 0, 1) := by decide +kernel
theorem dX7_bears_1 : decode cX7_bears 1 = .ok (.iconst 0, 1) := by decide +kernel
theorem dX7_bears_2 : decode cX7_bears 2 = .ok (.putfield 59, 3) := by decide +kernel
theorem dX7_bears_5 : decode cX7_bears 5 = .ok (.aload_n 0, 1) := by decide +kernel
theorem dX7_bears_6 : decode cX7_bears 6 = .ok (.invokevirtual 211, 3) := by decide +kernel
theorem dX7_bears_9 : decode cX7_bears 9 = .ok (.ifCond .ne 6, 3) := by decide +kernel
theorem dX7_bears_12 : decode cX7_bears 12 = .ok (.ldc 214, 2) := by decide +kernel
theorem dX7_bears_14 : decode cX7_bears 14 = .ok (.ireturn, 1) := by decide +kernel
theorem dX7_bears_15 : decode cX7_bears 15 = .ok (.iload_n 1, 1) := by decide +kernel
theorem dX7_bears_16 : decode cX7_bears 16 = .ok (.invokestatic 73, 3) := by decide +kernel
theorem dX7_bears_19 : decode cX7_bears 19 = .ok (.ifCond .eq 15, 3) := by decide +kernel
theorem dX7_bears_22 : decode cX7_bears 22 = .ok (.iload_n 3, 1) := by decide +kernel
theorem dX7_bears_23 : decode cX7_bears 23 = .ok (.i2l, 1) := by decide +kernel
theorem dX7_bears_24 : decode cX7_bears 24 = .ok (.lconst 1, 1) := by decide +kernel
theorem dX7_bears_25 : decode cX7_bears 25 = .ok (.ldc2_w 251, 3) := by decide +kernel
theorem dX7_bears_28 : decode cX7_bears 28 = .ok (.invokestatic 69, 3) := by decide +kernel
theorem dX7_bears_31 : decode cX7_bears 31 = .ok (.ifCond .ne 6, 3) := by decide +kernel
theorem dX7_bears_34 : decode cX7_bears 34 = .ok (.ldc 79, 2) := by decide +kernel
theorem dX7_bears_36 : decode cX7_bears 36 = .ok (.ireturn, 1) := by decide +kernel
theorem dX7_bears_37 : decode cX7_bears 37 = .ok (.aload_n 0, 1) := by decide +kernel
theorem dX7_bears_38 : decode cX7_bears 38 = .ok (.iload_n 1, 1) := by decide +kernel
theorem dX7_bears_39 : decode cX7_bears 39 = .ok (.iload_n 2, 1) := by decide +kernel
theorem dX7_bears_40 : decode cX7_bears 40 = .ok (.iload_n 3, 1) := by decide +kernel
theorem dX7_bears_41 : decode cX7_bears 41 = .ok (.invokevirtual 253, 3) := by decide +kernel
theorem dX7_bears_44 : decode cX7_bears 44 = .ok (.istore 4, 2) := by decide +kernel
theorem dX7_bears_46 : decode cX7_bears 46 = .ok (.iload 4, 2) := by decide +kernel
theorem dX7_bears_48 : decode cX7_bears 48 = .ok (.ifCond .eq 6, 3) := by decide +kernel
theorem dX7_bears_51 : decode cX7_bears 51 = .ok (.iload 4, 2) := by decide +kernel
theorem dX7_bears_53 : decode cX7_bears 53 = .ok (.ireturn, 1) := by decide +kernel
theorem dX7_bears_54 : decode cX7_bears 54 = .ok (.aload_n 0, 1) := by decide +kernel
theorem dX7_bears_55 : decode cX7_bears 55 = .ok (.aload_n 0, 1) := by decide +kernel
theorem dX7_bears_56 : decode cX7_bears 56 = .ok (.getfield 19, 3) := by decide +kernel
theorem dX7_bears_59 : decode cX7_bears 59 = .ok (.invokevirtual 231, 3) := by decide +kernel
theorem dX7_bears_62 : decode cX7_bears 62 = .ok (.iconst 0, 1) := by decide +kernel
theorem dX7_bears_63 : decode cX7_bears 63 = .ok (.istore 5, 2) := by decide +kernel
theorem dX7_bears_65 : decode cX7_bears 65 = .ok (.iload 5, 2) := by decide +kernel
theorem dX7_bears_67 : decode cX7_bears 67 = .ok (.aload_n 0, 1) := by decide +kernel
theorem dX7_bears_68 : decode cX7_bears 68 = .ok (.getfield 19, 3) := by decide +kernel
theorem dX7_bears_71 : decode cX7_bears 71 = .ok (.iconst 0, 1) := by decide +kernel
theorem dX7_bears_72 : decode cX7_bears 72 = .ok (.iaload, 1) := by decide +kernel
theorem dX7_bears_73 : decode cX7_bears 73 = .ok (.if_icmp .ge 94, 3) := by decide +kernel
theorem dX7_bears_76 : decode cX7_bears 76 = .ok (.aload_n 0, 1) := by decide +kernel
theorem dX7_bears_77 : decode cX7_bears 77 = .ok (.aload_n 0, 1) := by decide +kernel
theorem dX7_bears_78 : decode cX7_bears 78 = .ok (.getfield 19, 3) := by decide +kernel
theorem dX7_bears_81 : decode cX7_bears 81 = .ok (.iload 5, 2) := by decide +kernel
theorem dX7_bears_83 : decode cX7_bears 83 = .ok (.iconst 0, 1) := by decide +kernel
theorem dX7_bears_84 : decode cX7_bears 84 = .ok (.invokevirtual 235, 3) := by decide +kernel
theorem dX7_bears_87 : decode cX7_bears 87 = .ok (.aload_n 0, 1) := by decide +kernel
theorem dX7_bears_88 : decode cX7_bears 88 = .ok (.getfield 177, 3) := by decide +kernel
theorem dX7_bears_91 : decode cX7_bears 91 = .ok (.iload_n 3, 1) := by decide +kernel
theorem dX7_bears_92 : decode cX7_bears 92 = .ok (.if_icmp .ne 7, 3) := by decide +kernel
theorem dX7_bears_95 : decode cX7_bears 95 = .ok (.iconst 1, 1) := by decide +kernel
theorem dX7_bears_96 : decode cX7_bears 96 = .ok (.goto 4, 3) := by decide +kernel
theorem dX7_bears_99 : decode cX7_bears 99 = .ok (.iconst 0, 1) := by decide +kernel
theorem dX7_bears_100 : decode cX7_bears 100 = .ok (.istore 6, 2) := by decide +kernel
theorem dX7_bears_102 : decode cX7_bears 102 = .ok (.iconst 0, 1) := by decide +kernel
theorem dX7_bears_103 : decode cX7_bears 103 = .ok (.istore 7, 2) := by decide +kernel
theorem dX7_bears_105 : decode cX7_bears 105 = .ok (.iload 7, 2) := by decide +kernel
theorem dX7_bears_107 : decode cX7_bears 107 = .ok (.iload_n 3, 1) := by decide +kernel
theorem dX7_bears_108 : decode cX7_bears 108 = .ok (.if_icmp .ge 45, 3) := by decide +kernel
theorem dX7_bears_111 : decode cX7_bears 111 = .ok (.iload 6, 2) := by decide +kernel
theorem dX7_bears_113 : decode cX7_bears 113 = .ok (.ifCond .eq 40, 3) := by decide +kernel
theorem dX7_bears_116 : decode cX7_bears 116 = .ok (.aload_n 0, 1) := by decide +kernel
theorem dX7_bears_117 : decode cX7_bears 117 = .ok (.getfield 43, 3) := by decide +kernel
theorem dX7_bears_120 : decode cX7_bears 120 = .ok (.iload 7, 2) := by decide +kernel
theorem dX7_bears_122 : decode cX7_bears 122 = .ok (.iaload, 1) := by decide +kernel
theorem dX7_bears_123 : decode cX7_bears 123 = .ok (.aload_n 0, 1) := by decide +kernel
theorem dX7_bears_124 : decode cX7_bears 124 = .ok (.getfield 16, 3) := by decide +kernel
theorem dX7_bears_127 : decode cX7_bears 127 = .ok (.bipush 40, 2) := by decide +kernel
theorem dX7_bears_129 : decode cX7_bears 129 = .ok (.iload_n 1, 1) := by decide +kernel
theorem dX7_bears_130 : decode cX7_bears 130 = .ok (.imul, 1) := by decide +kernel
theorem dX7_bears_131 : decode cX7_bears 131 = .ok (.iload_n 2, 1) := by decide +kernel
theorem dX7_bears_132 : decode cX7_bears 132 = .ok (.iadd, 1) := by decide +kernel
theorem dX7_bears_133 : decode cX7_bears 133 = .ok (.iload 7, 2) := by decide +kernel
theorem dX7_bears_135 : decode cX7_bears 135 = .ok (.iadd, 1) := by decide +kernel
theorem dX7_bears_136 : decode cX7_bears 136 = .ok (.iaload, 1) := by decide +kernel
theorem dX7_bears_137 : decode cX7_bears 137 = .ok (.if_icmp .ne 7, 3) := by decide +kernel
theorem dX7_bears_140 : decode cX7_bears 140 = .ok (.iconst 1, 1) := by decide +kernel
theorem dX7_bears_141 : decode cX7_bears 141 = .ok (.goto 4, 3) := by decide +kernel
theorem dX7_bears_144 : decode cX7_bears 144 = .ok (.iconst 0, 1) := by decide +kernel
theorem dX7_bears_145 : decode cX7_bears 145 = .ok (.istore 6, 2) := by decide +kernel
theorem dX7_bears_147 : decode cX7_bears 147 = .ok (.iinc 7 1, 3) := by decide +kernel
theorem dX7_bears_150 : decode cX7_bears 150 = .ok (.goto (-45), 3) := by decide +kernel
theorem dX7_bears_153 : decode cX7_bears 153 = .ok (.iload 6, 2) := by decide +kernel
theorem dX7_bears_155 : decode cX7_bears 155 = .ok (.ifCond .eq 6, 3) := by decide +kernel
theorem dX7_bears_158 : decode cX7_bears 158 = .ok (.iload 5, 2) := by decide +kernel
theorem dX7_bears_160 : decode cX7_bears 160 = .ok (.ireturn, 1) := by decide +kernel
theorem dX7_bears_161 : decode cX7_bears 161 = .ok (.iinc 5 1, 3) := by decide +kernel
theorem dX7_bears_164 : decode cX7_bears 164 = .ok (.goto (-99), 3) := by decide +kernel
theorem dX7_bears_167 : decode cX7_bears 167 = .ok (.ldc 102, 2) := by decide +kernel
theorem dX7_bears_169 : decode cX7_bears 169 = .ok (.ireturn, 1) := by decide +kernel
theorem dX7_isOther_0 : decode cX7_isOther 0 = .ok (.aload_n 0, 1) := by decide +kernel
theorem dX7_isOther_1 : decode cX7_isOther 1 = .ok (.aload_n 0, 1) := by decide +kernel
theorem dX7_isOther_2 : decode cX7_isOther 2 = .ok (.getfield 19, 3) := by decide +kernel
theorem dX7_isOther_5 : decode cX7_isOther 5 = .ok (.invokevirtual 231, 3) := by decide +kernel
theorem dX7_isOther_8 : decode cX7_isOther 8 = .ok (.aload_n 0, 1) := by decide +kernel
theorem dX7_isOther_9 : decode cX7_isOther 9 = .ok (.aload_n 0, 1) := by decide +kernel
theorem dX7_isOther_10 : decode cX7_isOther 10 = .ok (.getfield 19, 3) := by decide +kernel
theorem dX7_isOther_13 : decode cX7_isOther 13 = .ok (.iload_n 1, 1) := by decide +kernel
theorem dX7_isOther_14 : decode cX7_isOther 14 = .ok (.iconst 0, 1) := by decide +kernel
theorem dX7_isOther_15 : decode cX7_isOther 15 = .ok (.invokevirtual 235, 3) := by decide +kernel
theorem dX7_isOther_18 : decode cX7_isOther 18 = .ok (.aload_n 0, 1) := by decide +kernel
theorem dX7_isOther_19 : decode cX7_isOther 19 = .ok (.invokevirtual 244, 3) := by decide +kernel
theorem dX7_isOther_22 : decode cX7_isOther 22 = .ok (.aload_n 0, 1) := by decide +kernel
theorem dX7_isOther_23 : decode cX7_isOther 23 = .ok (.aload_n 0, 1) := by decide +kernel
theorem dX7_isOther_24 : decode cX7_isOther 24 = .ok (.getfield 25, 3) := by decide +kernel
theorem dX7_isOther_27 : decode cX7_isOther 27 = .ok (.invokevirtual 231, 3) := by decide +kernel
theorem dX7_isOther_30 : decode cX7_isOther 30 = .ok (.aload_n 0, 1) := by decide +kernel
theorem dX7_isOther_31 : decode cX7_isOther 31 = .ok (.aload_n 0, 1) := by decide +kernel
theorem dX7_isOther_32 : decode cX7_isOther 32 = .ok (.getfield 25, 3) := by decide +kernel
theorem dX7_isOther_35 : decode cX7_isOther 35 = .ok (.iload_n 1, 1) := by decide +kernel
theorem dX7_isOther_36 : decode cX7_isOther 36 = .ok (.iload_n 2, 1) := by decide +kernel
theorem dX7_isOther_37 : decode cX7_isOther 37 = .ok (.if_icmp .ge 7, 3) := by decide +kernel
theorem dX7_isOther_40 : decode cX7_isOther 40 = .ok (.iload_n 1, 1) := by decide +kernel
theorem dX7_isOther_41 : decode cX7_isOther 41 = .ok (.goto 6, 3) := by decide +kernel
theorem dX7_isOther_44 : decode cX7_isOther 44 = .ok (.iload_n 1, 1) := by decide +kernel
theorem dX7_isOther_45 : decode cX7_isOther 45 = .ok (.iconst 1, 1) := by decide +kernel
theorem dX7_isOther_46 : decode cX7_isOther 46 = .ok (.isub, 1) := by decide +kernel
theorem dX7_isOther_47 : decode cX7_isOther 47 = .ok (.iconst 0, 1) := by decide +kernel
theorem dX7_isOther_48 : decode cX7_isOther 48 = .ok (.invokevirtual 235, 3) := by decide +kernel
theorem dX7_isOther_51 : decode cX7_isOther 51 = .ok (.aload_n 0, 1) := by decide +kernel
theorem dX7_isOther_52 : decode cX7_isOther 52 = .ok (.invokevirtual 247, 3) := by decide +kernel
theorem dX7_isOther_55 : decode cX7_isOther 55 = .ok (.ifCond .eq 7, 3) := by decide +kernel
theorem dX7_isOther_58 : decode cX7_isOther 58 = .ok (.iconst 1, 1) := by decide +kernel
theorem dX7_isOther_59 : decode cX7_isOther 59 = .ok (.goto 4, 3) := by decide +kernel
theorem dX7_isOther_62 : decode cX7_isOther 62 = .ok (.iconst 0, 1) := by decide +kernel
theorem dX7_isOther_63 : decode cX7_isOther 63 = .ok (.ireturn, 1) := by decide +kernel
theorem dX7_changed_0 : decode cX7_changed 0 = .ok (.aload_n 0, 1) := by decide +kernel
theorem dX7_changed_1 : decode cX7_changed 1 = .ok (.iconst 0, 1) := by decide +kernel
theorem dX7_changed_2 : decode cX7_changed 2 = .ok (.putfield 59, 3) := by decide +kernel
theorem dX7_changed_5 : decode cX7_changed 5 = .ok (.aload_n 0, 1) := by decide +kernel
theorem dX7_changed_6 : decode cX7_changed 6 = .ok (.iload_n 1, 1) := by decide +kernel
theorem dX7_changed_7 : decode cX7_changed 7 = .ok (.invokevirtual 222, 3) := by decide +kernel
theorem dX7_changed_10 : decode cX7_changed 10 = .ok (.ifCond .ne 6, 3) := by decide +kernel
theorem dX7_changed_13 : decode cX7_changed 13 = .ok (.ldc 79, 2) := by decide +kernel
theorem dX7_changed_15 : decode cX7_changed 15 = .ok (.ireturn, 1) := by decide +kernel
theorem dX7_changed_16 : decode cX7_changed 16 = .ok (.aload_n 0, 1) := by decide +kernel
theorem dX7_changed_17 : decode cX7_changed 17 = .ok (.getfield 19, 3) := by decide +kernel
theorem dX7_changed_20 : decode cX7_changed 20 = .ok (.iconst 0, 1) := by decide +kernel
theorem dX7_changed_21 : decode cX7_changed 21 = .ok (.iaload, 1) := by decide +kernel
theorem dX7_changed_22 : decode cX7_changed 22 = .ok (.iconst 1, 1) := by decide +kernel
theorem dX7_changed_23 : decode cX7_changed 23 = .ok (.if_icmp .ne 6, 3) := by decide +kernel
theorem dX7_changed_26 : decode cX7_changed 26 = .ok (.ldc 214, 2) := by decide +kernel
theorem dX7_changed_28 : decode cX7_changed 28 = .ok (.ireturn, 1) := by decide +kernel
theorem dX7_changed_29 : decode cX7_changed 29 = .ok (.aload_n 0, 1) := by decide +kernel
theorem dX7_changed_30 : decode cX7_changed 30 = .ok (.invokevirtual 257, 3) := by decide +kernel
theorem dX7_changed_33 : decode cX7_changed 33 = .ok (.aload_n 0, 1) := by decide +kernel
theorem dX7_changed_34 : decode cX7_changed 34 = .ok (.getfield 25, 3) := by decide +kernel
theorem dX7_changed_37 : decode cX7_changed 37 = .ok (.iload_n 1, 1) := by decide +kernel
theorem dX7_changed_38 : decode cX7_changed 38 = .ok (.invokestatic 201, 3) := by decide +kernel
theorem dX7_changed_41 : decode cX7_changed 41 = .ok (.iconst 0, 1) := by decide +kernel
theorem dX7_changed_42 : decode cX7_changed 42 = .ok (.istore_n 2, 1) := by decide +kernel
theorem dX7_changed_43 : decode cX7_changed 43 = .ok (.iconst 0, 1) := by decide +kernel
theorem dX7_changed_44 : decode cX7_changed 44 = .ok (.istore_n 3, 1) := by decide +kernel
theorem dX7_changed_45 : decode cX7_changed 45 = .ok (.iload_n 3, 1) := by decide +kernel
theorem dX7_changed_46 : decode cX7_changed 46 = .ok (.aload_n 0, 1) := by decide +kernel
theorem dX7_changed_47 : decode cX7_changed 47 = .ok (.getfield 19, 3) := by decide +kernel
theorem dX7_changed_50 : decode cX7_changed 50 = .ok (.iconst 0, 1) := by decide +kernel
theorem dX7_changed_51 : decode cX7_changed 51 = .ok (.iaload, 1) := by decide +kernel
theorem dX7_changed_52 : decode cX7_changed 52 = .ok (.if_icmp .ge 31, 3) := by decide +kernel
theorem dX7_changed_55 : decode cX7_changed 55 = .ok (.iload_n 2, 1) := by decide +kernel
theorem dX7_changed_56 : decode cX7_changed 56 = .ok (.iload_n 3, 1) := by decide +kernel
theorem dX7_changed_57 : decode cX7_changed 57 = .ok (.iload_n 1, 1) := by decide +kernel
theorem dX7_changed_58 : decode cX7_changed 58 = .ok (.if_icmp .eq 16, 3) := by decide +kernel
theorem dX7_changed_61 : decode cX7_changed 61 = .ok (.aload_n 0, 1) := by decide +kernel
theorem dX7_changed_62 : decode cX7_changed 62 = .ok (.iload_n 3, 1) := by decide +kernel
theorem dX7_changed_63 : decode cX7_changed 63 = .ok (.iload_n 1, 1) := by decide +kernel
theorem dX7_changed_64 : decode cX7_changed 64 = .ok (.invokevirtual 260, 3) := by decide +kernel
theorem dX7_changed_67 : decode cX7_changed 67 = .ok (.ifCond .eq 7, 3) := by decide +kernel
theorem dX7_changed_70 : decode cX7_changed 70 = .ok (.iconst 1, 1) := by decide +kernel
theorem dX7_changed_71 : decode cX7_changed 71 = .ok (.goto 4, 3) := by decide +kernel
theorem dX7_changed_74 : decode cX7_changed 74 = .ok (.iconst 0, 1) := by decide +kernel
theorem dX7_changed_75 : decode cX7_changed 75 = .ok (.iadd, 1) := by decide +kernel
theorem dX7_changed_76 : decode cX7_changed 76 = .ok (.istore_n 2, 1) := by decide +kernel
theorem dX7_changed_77 : decode cX7_changed 77 = .ok (.iinc 3 1, 3) := by decide +kernel
theorem dX7_changed_80 : decode cX7_changed 80 = .ok (.goto (-35), 3) := by decide +kernel
theorem dX7_changed_83 : decode cX7_changed 83 = .ok (.iload_n 2, 1) := by decide +kernel
theorem dX7_changed_84 : decode cX7_changed 84 = .ok (.ireturn, 1) := by decide +kernel
theorem dX7_farOf_0 : decode cX7_farOf 0 = .ok (.iload_n 0, 1) := by decide +kernel
theorem dX7_farOf_1 : decode cX7_farOf 1 = .ok (.iload_n 1, 1) := by decide +kernel
theorem dX7_farOf_2 : decode cX7_farOf 2 = .ok (.if_icmp .ge 9, 3) := by decide +kernel
theorem dX7_farOf_5 : decode cX7_farOf 5 = .ok (.iload_n 1, 1) := by decide +kernel
theorem dX7_farOf_6 : decode cX7_farOf 6 = .ok (.iload_n 0, 1) := by decide +kernel
theorem dX7_farOf_7 : decode cX7_farOf 7 = .ok (.isub, 1) := by decide +kernel
theorem dX7_farOf_8 : decode cX7_farOf 8 = .ok (.goto 6, 3) := by decide +kernel
theorem dX7_farOf_11 : decode cX7_farOf 11 = .ok (.iload_n 0, 1) := by decide +kernel
theorem dX7_farOf_12 : decode cX7_farOf 12 = .ok (.iload_n 1, 1) := by decide +kernel
theorem dX7_farOf_13 : decode cX7_farOf 13 = .ok (.isub, 1) := by decide +kernel
theorem dX7_farOf_14 : decode cX7_farOf 14 = .ok (.ireturn, 1) := by decide +kernel
theorem dX7_nearest_0 : decode cX7_nearest 0 = .ok (.aload_n 0, 1) := by decide +kernel
theorem dX7_nearest_1 : decode cX7_nearest 1 = .ok (.iconst 0, 1) := by decide +kernel
theorem dX7_nearest_2 : decode cX7_nearest 2 = .ok (.putfield 59, 3) := by decide +kernel
theorem dX7_nearest_5 : decode cX7_nearest 5 = .ok (.aload_n 0, 1) := by decide +kernel
theorem dX7_nearest_6 : decode cX7_nearest 6 = .ok (.iload_n 1, 1) := by decide +kernel
theorem dX7_nearest_7 : decode cX7_nearest 7 = .ok (.invokevirtual 222, 3) := by decide +kernel
theorem dX7_nearest_10 : decode cX7_nearest 10 = .ok (.ifCond .eq 15, 3) := by decide +kernel
theorem dX7_nearest_13 : decode cX7_nearest 13 = .ok (.iload_n 2, 1) := by decide +kernel
theorem dX7_nearest_14 : decode cX7_nearest 14 = .ok (.i2l, 1) := by decide +kernel
theorem dX7_nearest_15 : decode cX7_nearest 15 = .ok (.lconst 0, 1) := by decide +kernel
theorem dX7_nearest_16 : decode cX7_nearest 16 = .ok (.ldc2_w 264, 3) := by decide +kernel
theorem dX7_nearest_19 : decode cX7_nearest 19 = .ok (.invokestatic 69, 3) := by decide +kernel
theorem dX7_nearest_22 : decode cX7_nearest 22 = .ok (.ifCond .ne 6, 3) := by decide +kernel
theorem dX7_nearest_25 : decode cX7_nearest 25 = .ok (.ldc 79, 2) := by decide +kernel
theorem dX7_nearest_27 : decode cX7_nearest 27 = .ok (.ireturn, 1) := by decide +kernel
theorem dX7_nearest_28 : decode cX7_nearest 28 = .ok (.ldc 102, 2) := by decide +kernel
theorem dX7_nearest_30 : decode cX7_nearest 30 = .ok (.istore_n 3, 1) := by decide +kernel
theorem dX7_nearest_31 : decode cX7_nearest 31 = .ok (.iconst 0, 1) := by decide +kernel
theorem dX7_nearest_32 : decode cX7_nearest 32 = .ok (.istore 4, 2) := by decide +kernel
theorem dX7_nearest_34 : decode cX7_nearest 34 = .ok (.iload 4, 2) := by decide +kernel
theorem dX7_nearest_36 : decode cX7_nearest 36 = .ok (.aload_n 0, 1) := by decide +kernel
theorem dX7_nearest_37 : decode cX7_nearest 37 = .ok (.getfield 19, 3) := by decide +kernel
theorem dX7_nearest_40 : decode cX7_nearest 40 = .ok (.iconst 0, 1) := by decide +kernel
theorem dX7_nearest_41 : decode cX7_nearest 41 = .ok (.iaload, 1) := by decide +kernel
theorem dX7_nearest_42 : decode cX7_nearest 42 = .ok (.if_icmp .ge 95, 3) := by decide +kernel
theorem dX7_nearest_45 : decode cX7_nearest 45 = .ok (.aload_n 0, 1) := by decide +kernel
theorem dX7_nearest_46 : decode cX7_nearest 46 = .ok (.getfield 19, 3) := by decide +kernel
theorem dX7_nearest_49 : decode cX7_nearest 49 = .ok (.iload_n 1, 1) := by decide +kernel
theorem dX7_nearest_50 : decode cX7_nearest 50 = .ok (.invokestatic 194, 3) := by decide +kernel
theorem dX7_nearest_53 : decode cX7_nearest 53 = .ok (.ifCond .eq 84, 3) := by decide +kernel
theorem dX7_nearest_56 : decode cX7_nearest 56 = .ok (.aload_n 0, 1) := by decide +kernel
theorem dX7_nearest_57 : decode cX7_nearest 57 = .ok (.invokevirtual 257, 3) := by decide +kernel
theorem dX7_nearest_60 : decode cX7_nearest 60 = .ok (.aload_n 0, 1) := by decide +kernel
theorem dX7_nearest_61 : decode cX7_nearest 61 = .ok (.getfield 25, 3) := by decide +kernel
theorem dX7_nearest_64 : decode cX7_nearest 64 = .ok (.iload_n 1, 1) := by decide +kernel
theorem dX7_nearest_65 : decode cX7_nearest 65 = .ok (.iload 4, 2) := by decide +kernel
theorem dX7_nearest_67 : decode cX7_nearest 67 = .ok (.invokestatic 225, 3) := by decide +kernel
theorem dX7_nearest_70 : decode cX7_nearest 70 = .ok (.aload_n 0, 1) := by decide +kernel
theorem dX7_nearest_71 : decode cX7_nearest 71 = .ok (.aload_n 0, 1) := by decide +kernel
theorem dX7_nearest_72 : decode cX7_nearest 72 = .ok (.getfield 25, 3) := by decide +kernel
theorem dX7_nearest_75 : decode cX7_nearest 75 = .ok (.invokevirtual 231, 3) := by decide +kernel
theorem dX7_nearest_78 : decode cX7_nearest 78 = .ok (.iload_n 3, 1) := by decide +kernel
theorem dX7_nearest_79 : decode cX7_nearest 79 = .ok (.ldc 102, 2) := by decide +kernel
theorem dX7_nearest_81 : decode cX7_nearest 81 = .ok (.if_icmp .eq 17, 3) := by decide +kernel
theorem dX7_nearest_84 : decode cX7_nearest 84 = .ok (.iload 4, 2) := by decide +kernel
theorem dX7_nearest_86 : decode cX7_nearest 86 = .ok (.iload_n 1, 1) := by decide +kernel
theorem dX7_nearest_87 : decode cX7_nearest 87 = .ok (.invokestatic 266, 3) := by decide +kernel
theorem dX7_nearest_90 : decode cX7_nearest 90 = .ok (.iload_n 3, 1) := by decide +kernel
theorem dX7_nearest_91 : decode cX7_nearest 91 = .ok (.iload_n 1, 1) := by decide +kernel
theorem dX7_nearest_92 : decode cX7_nearest 92 = .ok (.invokestatic 266, 3) := by decide +kernel
theorem dX7_nearest_95 : decode cX7_nearest 95 = .ok (.if_icmp .ge 7, 3) := by decide +kernel
theorem dX7_nearest_98 : decode cX7_nearest 98 = .ok (.iconst 1, 1) := by decide +kernel
theorem dX7_nearest_99 : decode cX7_nearest 99 = .ok (.goto 4, 3) := by decide +kernel
theorem dX7_nearest_102 : decode cX7_nearest 102 = .ok (.iconst 0, 1) := by decide +kernel
theorem dX7_nearest_103 : decode cX7_nearest 103 = .ok (.istore 5, 2) := by decide +kernel
theorem dX7_nearest_105 : decode cX7_nearest 105 = .ok (.aload_n 0, 1) := by decide +kernel
theorem dX7_nearest_106 : decode cX7_nearest 106 = .ok (.aload_n 0, 1) := by decide +kernel
theorem dX7_nearest_107 : decode cX7_nearest 107 = .ok (.getfield 25, 3) := by decide +kernel
theorem dX7_nearest_110 : decode cX7_nearest 110 = .ok (.iload 4, 2) := by decide +kernel
theorem dX7_nearest_112 : decode cX7_nearest 112 = .ok (.invokevirtual 269, 3) := by decide +kernel
theorem dX7_nearest_115 : decode cX7_nearest 115 = .ok (.iload_n 2, 1) := by decide +kernel
theorem dX7_nearest_116 : decode cX7_nearest 116 = .ok (.if_icmp .ne 13, 3) := by decide +kernel
theorem dX7_nearest_119 : decode cX7_nearest 119 = .ok (.iload 5, 2) := by decide +kernel
theorem dX7_nearest_121 : decode cX7_nearest 121 = .ok (.ifCond .eq 8, 3) := by decide +kernel
theorem dX7_nearest_124 : decode cX7_nearest 124 = .ok (.iload 4, 2) := by decide +kernel
theorem dX7_nearest_126 : decode cX7_nearest 126 = .ok (.goto 4, 3) := by decide +kernel
theorem dX7_nearest_129 : decode cX7_nearest 129 = .ok (.iload_n 3, 1) := by decide +kernel
theorem dX7_nearest_130 : decode cX7_nearest 130 = .ok (.istore_n 3, 1) := by decide +kernel
theorem dX7_nearest_131 : decode cX7_nearest 131 = .ok (.iinc 4 1, 3) := by decide +kernel
theorem dX7_nearest_134 : decode cX7_nearest 134 = .ok (.goto (-100), 3) := by decide +kernel
theorem dX7_nearest_137 : decode cX7_nearest 137 = .ok (.iload_n 3, 1) := by decide +kernel
theorem dX7_nearest_138 : decode cX7_nearest 138 = .ok (.ireturn, 1) := by decide +kernel
theorem dX7_sets_0 : decode cX7_sets 0 = .ok (.aload_n 0, 1) := by decide +kernel
theorem dX7_sets_1 : decode cX7_sets 1 = .ok (.iconst 0, 1) := by decide +kernel
theorem dX7_sets_2 : decode cX7_sets 2 = .ok (.putfield 59, 3) := by decide +kernel
theorem dX7_sets_5 : decode cX7_sets 5 = .ok (.aload_n 0, 1) := by decide +kernel
theorem dX7_sets_6 : decode cX7_sets 6 = .ok (.invokevirtual 211, 3) := by decide +kernel
theorem dX7_sets_9 : decode cX7_sets 9 = .ok (.ifCond .ne 6, 3) := by decide +kernel
theorem dX7_sets_12 : decode cX7_sets 12 = .ok (.ldc 214, 2) := by decide +kernel
theorem dX7_sets_14 : decode cX7_sets 14 = .ok (.ireturn, 1) := by decide +kernel
theorem dX7_sets_15 : decode cX7_sets 15 = .ok (.iload_n 1, 1) := by decide +kernel
theorem dX7_sets_16 : decode cX7_sets 16 = .ok (.i2l, 1) := by decide +kernel
theorem dX7_sets_17 : decode cX7_sets 17 = .ok (.lconst 0, 1) := by decide +kernel
theorem dX7_sets_18 : decode cX7_sets 18 = .ok (.ldc2_w 264, 3) := by decide +kernel
theorem dX7_sets_21 : decode cX7_sets 21 = .ok (.invokestatic 69, 3) := by decide +kernel
theorem dX7_sets_24 : decode cX7_sets 24 = .ok (.ifCond .ne 6, 3) := by decide +kernel
theorem dX7_sets_27 : decode cX7_sets 27 = .ok (.ldc 79, 2) := by decide +kernel
theorem dX7_sets_29 : decode cX7_sets 29 = .ok (.ireturn, 1) := by decide +kernel
theorem dX7_sets_30 : decode cX7_sets 30 = .ok (.aload_n 0, 1) := by decide +kernel
theorem dX7_sets_31 : decode cX7_sets 31 = .ok (.aload_n 0, 1) := by decide +kernel
theorem dX7_sets_32 : decode cX7_sets 32 = .ok (.getfield 19, 3) := by decide +kernel
theorem dX7_sets_35 : decode cX7_sets 35 = .ok (.invokevirtual 231, 3) := by decide +kernel
theorem dX7_sets_38 : decode cX7_sets 38 = .ok (.iconst 0, 1) := by decide +kernel
theorem dX7_sets_39 : decode cX7_sets 39 = .ok (.istore_n 2, 1) := by decide +kernel
theorem dX7_sets_40 : decode cX7_sets 40 = .ok (.iconst 0, 1) := by decide +kernel
theorem dX7_sets_41 : decode cX7_sets 41 = .ok (.istore_n 3, 1) := by decide +kernel
theorem dX7_sets_42 : decode cX7_sets 42 = .ok (.iload_n 3, 1) := by decide +kernel
theorem dX7_sets_43 : decode cX7_sets 43 = .ok (.aload_n 0, 1) := by decide +kernel
theorem dX7_sets_44 : decode cX7_sets 44 = .ok (.getfield 19, 3) := by decide +kernel
theorem dX7_sets_47 : decode cX7_sets 47 = .ok (.iconst 0, 1) := by decide +kernel
theorem dX7_sets_48 : decode cX7_sets 48 = .ok (.iaload, 1) := by decide +kernel
theorem dX7_sets_49 : decode cX7_sets 49 = .ok (.if_icmp .ge 43, 3) := by decide +kernel
theorem dX7_sets_52 : decode cX7_sets 52 = .ok (.iload_n 2, 1) := by decide +kernel
theorem dX7_sets_53 : decode cX7_sets 53 = .ok (.aload_n 0, 1) := by decide +kernel
theorem dX7_sets_54 : decode cX7_sets 54 = .ok (.getfield 19, 3) := by decide +kernel
theorem dX7_sets_57 : decode cX7_sets 57 = .ok (.iload_n 3, 1) := by decide +kernel
theorem dX7_sets_58 : decode cX7_sets 58 = .ok (.invokestatic 194, 3) := by decide +kernel
theorem dX7_sets_61 : decode cX7_sets 61 = .ok (.ifCond .eq 22, 3) := by decide +kernel
theorem dX7_sets_64 : decode cX7_sets 64 = .ok (.aload_n 0, 1) := by decide +kernel
theorem dX7_sets_65 : decode cX7_sets 65 = .ok (.aload_n 0, 1) := by decide +kernel
theorem dX7_sets_66 : decode cX7_sets 66 = .ok (.getfield 19, 3) := by decide +kernel
theorem dX7_sets_69 : decode cX7_sets 69 = .ok (.iload_n 3, 1) := by decide +kernel
theorem dX7_sets_70 : decode cX7_sets 70 = .ok (.invokevirtual 269, 3) := by decide +kernel
theorem dX7_sets_73 : decode cX7_sets 73 = .ok (.iload_n 1, 1) := by decide +kernel
theorem dX7_sets_74 : decode cX7_sets 74 = .ok (.if_icmp .ne 9, 3) := by decide +kernel
theorem dX7_sets_77 : decode cX7_sets 77 = .ok (.iconst 1, 1) := by decide +kernel
theorem dX7_sets_78 : decode cX7_sets 78 = .ok (.iload_n 3, 1) := by decide +kernel
theorem dX7_sets_79 : decode cX7_sets 79 = .ok (.ishl, 1) := by decide +kernel
theorem dX7_sets_80 : decode cX7_sets 80 = .ok (.goto 4, 3) := by decide +kernel
theorem dX7_sets_83 : decode cX7_sets 83 = .ok (.iconst 0, 1) := by decide +kernel
theorem dX7_sets_84 : decode cX7_sets 84 = .ok (.ior, 1) := by decide +kernel
theorem dX7_sets_85 : decode cX7_sets 85 = .ok (.istore_n 2, 1) := by decide +kernel
theorem dX7_sets_86 : decode cX7_sets 86 = .ok (.iinc 3 1, 3) := by decide +kernel
theorem dX7_sets_89 : decode cX7_sets 89 = .ok (.goto (-47), 3) := by decide +kernel
theorem dX7_sets_92 : decode cX7_sets 92 = .ok (.iload_n 2, 1) := by decide +kernel
theorem dX7_sets_93 : decode cX7_sets 93 = .ok (.ireturn, 1) := by decide +kernel
theorem dX7_deepest_0 : decode cX7_deepest 0 = .ok (.aload_n 0, 1) := by decide +kernel
theorem dX7_deepest_1 : decode cX7_deepest 1 = .ok (.iconst 0, 1) := by decide +kernel
theorem dX7_deepest_2 : decode cX7_deepest 2 = .ok (.putfield 59, 3) := by decide +kernel
theorem dX7_deepest_5 : decode cX7_deepest 5 = .ok (.aload_n 0, 1) := by decide +kernel
theorem dX7_deepest_6 : decode cX7_deepest 6 = .ok (.invokevirtual 211, 3) := by decide +kernel
theorem dX7_deepest_9 : decode cX7_deepest 9 = .ok (.ifCond .ne 6, 3) := by decide +kernel
theorem dX7_deepest_12 : decode cX7_deepest 12 = .ok (.ldc 214, 2) := by decide +kernel
theorem dX7_deepest_14 : decode cX7_deepest 14 = .ok (.ireturn, 1) := by decide +kernel
theorem dX7_deepest_15 : decode cX7_deepest 15 = .ok (.iload_n 1, 1) := by decide +kernel
theorem dX7_deepest_16 : decode cX7_deepest 16 = .ok (.i2l, 1) := by decide +kernel
theorem dX7_deepest_17 : decode cX7_deepest 17 = .ok (.lconst 0, 1) := by decide +kernel
theorem dX7_deepest_18 : decode cX7_deepest 18 = .ok (.lconst 1, 1) := by decide +kernel
theorem dX7_deepest_19 : decode cX7_deepest 19 = .ok (.invokestatic 69, 3) := by decide +kernel
theorem dX7_deepest_22 : decode cX7_deepest 22 = .ok (.ifCond .ne 6, 3) := by decide +kernel
theorem dX7_deepest_25 : decode cX7_deepest 25 = .ok (.ldc 79, 2) := by decide +kernel
theorem dX7_deepest_27 : decode cX7_deepest 27 = .ok (.ireturn, 1) := by decide +kernel
theorem dX7_deepest_28 : decode cX7_deepest 28 = .ok (.aload_n 0, 1) := by decide +kernel
theorem dX7_deepest_29 : decode cX7_deepest 29 = .ok (.aload_n 0, 1) := by decide +kernel
theorem dX7_deepest_30 : decode cX7_deepest 30 = .ok (.getfield 19, 3) := by decide +kernel
theorem dX7_deepest_33 : decode cX7_deepest 33 = .ok (.invokevirtual 231, 3) := by decide +kernel
theorem dX7_deepest_36 : decode cX7_deepest 36 = .ok (.ldc 102, 2) := by decide +kernel
theorem dX7_deepest_38 : decode cX7_deepest 38 = .ok (.istore_n 2, 1) := by decide +kernel
theorem dX7_deepest_39 : decode cX7_deepest 39 = .ok (.ldc 102, 2) := by decide +kernel
theorem dX7_deepest_41 : decode cX7_deepest 41 = .ok (.istore_n 3, 1) := by decide +kernel
theorem dX7_deepest_42 : decode cX7_deepest 42 = .ok (.iconst 0, 1) := by decide +kernel
theorem dX7_deepest_43 : decode cX7_deepest 43 = .ok (.istore 4, 2) := by decide +kernel
theorem dX7_deepest_45 : decode cX7_deepest 45 = .ok (.iload 4, 2) := by decide +kernel
theorem dX7_deepest_47 : decode cX7_deepest 47 = .ok (.aload_n 0, 1) := by decide +kernel
theorem dX7_deepest_48 : decode cX7_deepest 48 = .ok (.getfield 19, 3) := by decide +kernel
theorem dX7_deepest_51 : decode cX7_deepest 51 = .ok (.iconst 0, 1) := by decide +kernel
theorem dX7_deepest_52 : decode cX7_deepest 52 = .ok (.iaload, 1) := by decide +kernel
theorem dX7_deepest_53 : decode cX7_deepest 53 = .ok (.if_icmp .ge 43, 3) := by decide +kernel
theorem dX7_deepest_56 : decode cX7_deepest 56 = .ok (.aload_n 0, 1) := by decide +kernel
theorem dX7_deepest_57 : decode cX7_deepest 57 = .ok (.aload_n 0, 1) := by decide +kernel
theorem dX7_deepest_58 : decode cX7_deepest 58 = .ok (.getfield 19, 3) := by decide +kernel
theorem dX7_deepest_61 : decode cX7_deepest 61 = .ok (.iload 4, 2) := by decide +kernel
theorem dX7_deepest_63 : decode cX7_deepest 63 = .ok (.iconst 0, 1) := by decide +kernel
theorem dX7_deepest_64 : decode cX7_deepest 64 = .ok (.invokevirtual 235, 3) := by decide +kernel
theorem dX7_deepest_67 : decode cX7_deepest 67 = .ok (.aload_n 0, 1) := by decide +kernel
theorem dX7_deepest_68 : decode cX7_deepest 68 = .ok (.getfield 177, 3) := by decide +kernel
theorem dX7_deepest_71 : decode cX7_deepest 71 = .ok (.ifCond .le 19, 3) := by decide +kernel
theorem dX7_deepest_74 : decode cX7_deepest 74 = .ok (.aload_n 0, 1) := by decide +kernel
theorem dX7_deepest_75 : decode cX7_deepest 75 = .ok (.getfield 177, 3) := by decide +kernel
theorem dX7_deepest_78 : decode cX7_deepest 78 = .ok (.iload_n 2, 1) := by decide +kernel
theorem dX7_deepest_79 : decode cX7_deepest 79 = .ok (.if_icmp .le 11, 3) := by decide +kernel
theorem dX7_deepest_82 : decode cX7_deepest 82 = .ok (.aload_n 0, 1) := by decide +kernel
theorem dX7_deepest_83 : decode cX7_deepest 83 = .ok (.getfield 177, 3) := by decide +kernel
theorem dX7_deepest_86 : decode cX7_deepest 86 = .ok (.istore_n 2, 1) := by decide +kernel
theorem dX7_deepest_87 : decode cX7_deepest 87 = .ok (.iload 4, 2) := by decide +kernel
theorem dX7_deepest_89 : decode cX7_deepest 89 = .ok (.istore_n 3, 1) := by decide +kernel
theorem dX7_deepest_90 : decode cX7_deepest 90 = .ok (.iinc 4 1, 3) := by decide +kernel
theorem dX7_deepest_93 : decode cX7_deepest 93 = .ok (.goto (-48), 3) := by decide +kernel
theorem dX7_deepest_96 : decode cX7_deepest 96 = .ok (.iload_n 1, 1) := by decide +kernel
theorem dX7_deepest_97 : decode cX7_deepest 97 = .ok (.ifCond .ne 7, 3) := by decide +kernel
theorem dX7_deepest_100 : decode cX7_deepest 100 = .ok (.iload_n 2, 1) := by decide +kernel
theorem dX7_deepest_101 : decode cX7_deepest 101 = .ok (.goto 4, 3) := by decide +kernel
theorem dX7_deepest_104 : decode cX7_deepest 104 = .ok (.iload_n 3, 1) := by decide +kernel
theorem dX7_deepest_105 : decode cX7_deepest 105 = .ok (.ireturn, 1) := by decide +kernel
theorem dX7_isCountedSo_0 : decode cX7_isCountedSo 0 = .ok (.aload_n 0, 1) := by decide +kernel
theorem dX7_isCountedSo_1 : decode cX7_isCountedSo 1 = .ok (.aload_n 0, 1) := by decide +kernel
theorem dX7_isCountedSo_2 : decode cX7_isCountedSo 2 = .ok (.getfield 25, 3) := by decide +kernel
theorem dX7_isCountedSo_5 : decode cX7_isCountedSo 5 = .ok (.invokevirtual 231, 3) := by decide +kernel
theorem dX7_isCountedSo_8 : decode cX7_isCountedSo 8 = .ok (.iconst 1, 1) := by decide +kernel
theorem dX7_isCountedSo_9 : decode cX7_isCountedSo 9 = .ok (.istore_n 3, 1) := by decide +kernel
theorem dX7_isCountedSo_10 : decode cX7_isCountedSo 10 = .ok (.iconst 0, 1) := by decide +kernel
theorem dX7_isCountedSo_11 : decode cX7_isCountedSo 11 = .ok (.istore 4, 2) := by decide +kernel
theorem dX7_isCountedSo_13 : decode cX7_isCountedSo 13 = .ok (.iload 4, 2) := by decide +kernel
theorem dX7_isCountedSo_15 : decode cX7_isCountedSo 15 = .ok (.iload_n 2, 1) := by decide +kernel
theorem dX7_isCountedSo_16 : decode cX7_isCountedSo 16 = .ok (.if_icmp .ge 57, 3) := by decide +kernel
theorem dX7_isCountedSo_19 : decode cX7_isCountedSo 19 = .ok (.iload_n 3, 1) := by decide +kernel
theorem dX7_isCountedSo_20 : decode cX7_isCountedSo 20 = .ok (.ifCond .eq 45, 3) := by decide +kernel
theorem dX7_isCountedSo_23 : decode cX7_isCountedSo 23 = .ok (.aload_n 0, 1) := by decide +kernel
theorem dX7_isCountedSo_24 : decode cX7_isCountedSo 24 = .ok (.getfield 25, 3) := by decide +kernel
theorem dX7_isCountedSo_27 : decode cX7_isCountedSo 27 = .ok (.iload 4, 2) := by decide +kernel
theorem dX7_isCountedSo_29 : decode cX7_isCountedSo 29 = .ok (.invokestatic 194, 3) := by decide +kernel
theorem dX7_isCountedSo_32 : decode cX7_isCountedSo 32 = .ok (.ifCond .eq 16, 3) := by decide +kernel
theorem dX7_isCountedSo_35 : decode cX7_isCountedSo 35 = .ok (.aload_n 0, 1) := by decide +kernel
theorem dX7_isCountedSo_36 : decode cX7_isCountedSo 36 = .ok (.aload_n 0, 1) := by decide +kernel
theorem dX7_isCountedSo_37 : decode cX7_isCountedSo 37 = .ok (.getfield 25, 3) := by decide +kernel
theorem dX7_isCountedSo_40 : decode cX7_isCountedSo 40 = .ok (.iload 4, 2) := by decide +kernel
theorem dX7_isCountedSo_42 : decode cX7_isCountedSo 42 = .ok (.invokevirtual 269, 3) := by decide +kernel
theorem dX7_isCountedSo_45 : decode cX7_isCountedSo 45 = .ok (.goto 4, 3) := by decide +kernel
theorem dX7_isCountedSo_48 : decode cX7_isCountedSo 48 = .ok (.iconst 0, 1) := by decide +kernel
theorem dX7_isCountedSo_49 : decode cX7_isCountedSo 49 = .ok (.aload_n 0, 1) := by decide +kernel
theorem dX7_isCountedSo_50 : decode cX7_isCountedSo 50 = .ok (.getfield 16, 3) := by decide +kernel
theorem dX7_isCountedSo_53 : decode cX7_isCountedSo 53 = .ok (.iload_n 1, 1) := by decide +kernel
theorem dX7_isCountedSo_54 : decode cX7_isCountedSo 54 = .ok (.iload 4, 2) := by decide +kernel
theorem dX7_isCountedSo_56 : decode cX7_isCountedSo 56 = .ok (.iadd, 1) := by decide +kernel
theorem dX7_isCountedSo_57 : decode cX7_isCountedSo 57 = .ok (.iaload, 1) := by decide +kernel
theorem dX7_isCountedSo_58 : decode cX7_isCountedSo 58 = .ok (.if_icmp .ne 7, 3) := by decide +kernel
theorem dX7_isCountedSo_61 : decode cX7_isCountedSo 61 = .ok (.iconst 1, 1) := by decide +kernel
theorem dX7_isCountedSo_62 : decode cX7_isCountedSo 62 = .ok (.goto 4, 3) := by decide +kernel
theorem dX7_isCountedSo_65 : decode cX7_isCountedSo 65 = .ok (.iconst 0, 1) := by decide +kernel
theorem dX7_isCountedSo_66 : decode cX7_isCountedSo 66 = .ok (.istore_n 3, 1) := by decide +kernel
theorem dX7_isCountedSo_67 : decode cX7_isCountedSo 67 = .ok (.iinc 4 1, 3) := by decide +kernel
theorem dX7_isCountedSo_70 : decode cX7_isCountedSo 70 = .ok (.goto (-57), 3) := by decide +kernel
theorem dX7_isCountedSo_73 : decode cX7_isCountedSo 73 = .ok (.iload_n 3, 1) := by decide +kernel
theorem dX7_isCountedSo_74 : decode cX7_isCountedSo 74 = .ok (.ireturn, 1) := by decide +kernel
theorem dX7_who_0 : decode cX7_who 0 = .ok (.aload_n 0, 1) := by decide +kernel
theorem dX7_who_1 : decode cX7_who 1 = .ok (.iconst 0, 1) := by decide +kernel
theorem dX7_who_2 : decode cX7_who 2 = .ok (.putfield 59, 3) := by decide +kernel
theorem dX7_who_5 : decode cX7_who 5 = .ok (.aload_n 0, 1) := by decide +kernel
theorem dX7_who_6 : decode cX7_who 6 = .ok (.iload_n 1, 1) := by decide +kernel
theorem dX7_who_7 : decode cX7_who 7 = .ok (.invokevirtual 222, 3) := by decide +kernel
theorem dX7_who_10 : decode cX7_who 10 = .ok (.ifCond .eq 39, 3) := by decide +kernel
theorem dX7_who_13 : decode cX7_who 13 = .ok (.iload_n 2, 1) := by decide +kernel
theorem dX7_who_14 : decode cX7_who 14 = .ok (.i2l, 1) := by decide +kernel
theorem dX7_who_15 : decode cX7_who 15 = .ok (.lconst 0, 1) := by decide +kernel
theorem dX7_who_16 : decode cX7_who 16 = .ok (.ldc2_w 77, 3) := by decide +kernel
theorem dX7_who_19 : decode cX7_who 19 = .ok (.invokestatic 69, 3) := by decide +kernel
theorem dX7_who_22 : decode cX7_who 22 = .ok (.ifCond .eq 27, 3) := by decide +kernel
theorem dX7_who_25 : decode cX7_who 25 = .ok (.iload_n 3, 1) := by decide +kernel
theorem dX7_who_26 : decode cX7_who 26 = .ok (.invokestatic 73, 3) := by decide +kernel
theorem dX7_who_29 : decode cX7_who 29 = .ok (.ifCond .eq 20, 3) := by decide +kernel
theorem dX7_who_32 : decode cX7_who 32 = .ok (.iload 5, 2) := by decide +kernel
theorem dX7_who_34 : decode cX7_who 34 = .ok (.i2l, 1) := by decide +kernel
theorem dX7_who_35 : decode cX7_who 35 = .ok (.lconst 1, 1) := by decide +kernel
theorem dX7_who_36 : decode cX7_who 36 = .ok (.aload_n 0, 1) := by decide +kernel
theorem dX7_who_37 : decode cX7_who 37 = .ok (.getfield 19, 3) := by decide +kernel
theorem dX7_who_40 : decode cX7_who 40 = .ok (.iconst 0, 1) := by decide +kernel
theorem dX7_who_41 : decode cX7_who 41 = .ok (.iaload, 1) := by decide +kernel
theorem dX7_who_42 : decode cX7_who 42 = .ok (.i2l, 1) := by decide +kernel
theorem dX7_who_43 : decode cX7_who 43 = .ok (.invokestatic 69, 3) := by decide +kernel
theorem dX7_who_46 : decode cX7_who 46 = .ok (.ifCond .ne 6, 3) := by decide +kernel
theorem dX7_who_49 : decode cX7_who 49 = .ok (.ldc 79, 2) := by decide +kernel
theorem dX7_who_51 : decode cX7_who 51 = .ok (.ireturn, 1) := by decide +kernel
theorem dX7_who_52 : decode cX7_who 52 = .ok (.aload_n 0, 1) := by decide +kernel
theorem dX7_who_53 : decode cX7_who 53 = .ok (.iload_n 3, 1) := by decide +kernel
theorem dX7_who_54 : decode cX7_who 54 = .ok (.iload 4, 2) := by decide +kernel
theorem dX7_who_56 : decode cX7_who 56 = .ok (.iload 5, 2) := by decide +kernel
theorem dX7_who_58 : decode cX7_who 58 = .ok (.invokevirtual 253, 3) := by decide +kernel
theorem dX7_who_61 : decode cX7_who 61 = .ok (.istore 6, 2) := by decide +kernel
theorem dX7_who_63 : decode cX7_who 63 = .ok (.iload 6, 2) := by decide +kernel
theorem dX7_who_65 : decode cX7_who 65 = .ok (.ifCond .eq 6, 3) := by decide +kernel
theorem dX7_who_68 : decode cX7_who 68 = .ok (.iload 6, 2) := by decide +kernel
theorem dX7_who_70 : decode cX7_who 70 = .ok (.ireturn, 1) := by decide +kernel
theorem dX7_who_71 : decode cX7_who 71 = .ok (.iconst 0, 1) := by decide +kernel
theorem dX7_who_72 : decode cX7_who 72 = .ok (.istore 7, 2) := by decide +kernel
theorem dX7_who_74 : decode cX7_who 74 = .ok (.iload_n 2, 1) := by decide +kernel
theorem dX7_who_75 : decode cX7_who 75 = .ok (.ifCond .ne 7, 3) := by decide +kernel
theorem dX7_who_78 : decode cX7_who 78 = .ok (.iconst 5, 1) := by decide +kernel
theorem dX7_who_79 : decode cX7_who 79 = .ok (.goto 14, 3) := by decide +kernel
theorem dX7_who_82 : decode cX7_who 82 = .ok (.iload_n 2, 1) := by decide +kernel
theorem dX7_who_83 : decode cX7_who 83 = .ok (.iconst 1, 1) := by decide +kernel
theorem dX7_who_84 : decode cX7_who 84 = .ok (.if_icmp .ne 7, 3) := by decide +kernel
theorem dX7_who_87 : decode cX7_who 87 = .ok (.iconst 2, 1) := by decide +kernel
theorem dX7_who_88 : decode cX7_who 88 = .ok (.goto 5, 3) := by decide +kernel
theorem dX7_who_91 : decode cX7_who 91 = .ok (.bipush 20, 2) := by decide +kernel
theorem dX7_who_93 : decode cX7_who 93 = .ok (.istore 8, 2) := by decide +kernel
theorem dX7_who_95 : decode cX7_who 95 = .ok (.iload_n 2, 1) := by decide +kernel
theorem dX7_who_96 : decode cX7_who 96 = .ok (.ifCond .ne 7, 3) := by decide +kernel
theorem dX7_who_99 : decode cX7_who 99 = .ok (.iconst 1, 1) := by decide +kernel
theorem dX7_who_100 : decode cX7_who 100 = .ok (.goto 4, 3) := by decide +kernel
theorem dX7_who_103 : decode cX7_who 103 = .ok (.iconst 0, 1) := by decide +kernel
theorem dX7_who_104 : decode cX7_who 104 = .ok (.istore 9, 2) := by decide +kernel
theorem dX7_who_106 : decode cX7_who 106 = .ok (.iload 9, 2) := by decide +kernel
theorem dX7_who_108 : decode cX7_who 108 = .ok (.iload 8, 2) := by decide +kernel
theorem dX7_who_110 : decode cX7_who 110 = .ok (.if_icmp .gt 56, 3) := by decide +kernel
theorem dX7_who_113 : decode cX7_who 113 = .ok (.aload_n 0, 1) := by decide +kernel
theorem dX7_who_114 : decode cX7_who 114 = .ok (.invokevirtual 257, 3) := by decide +kernel
theorem dX7_who_117 : decode cX7_who 117 = .ok (.aload_n 0, 1) := by decide +kernel
theorem dX7_who_118 : decode cX7_who 118 = .ok (.getfield 25, 3) := by decide +kernel
theorem dX7_who_121 : decode cX7_who 121 = .ok (.iconst 4, 1) := by decide +kernel
theorem dX7_who_122 : decode cX7_who 122 = .ok (.iconst 3, 1) := by decide +kernel
theorem dX7_who_123 : decode cX7_who 123 = .ok (.iload_n 1, 1) := by decide +kernel
theorem dX7_who_124 : decode cX7_who 124 = .ok (.imul, 1) := by decide +kernel
theorem dX7_who_125 : decode cX7_who 125 = .ok (.iadd, 1) := by decide +kernel
theorem dX7_who_126 : decode cX7_who 126 = .ok (.iload_n 2, 1) := by decide +kernel
theorem dX7_who_127 : decode cX7_who 127 = .ok (.iadd, 1) := by decide +kernel
theorem dX7_who_128 : decode cX7_who 128 = .ok (.iload 9, 2) := by decide +kernel
theorem dX7_who_130 : decode cX7_who 130 = .ok (.iastore, 1) := by decide +kernel
theorem dX7_who_131 : decode cX7_who 131 = .ok (.iload 7, 2) := by decide +kernel
theorem dX7_who_133 : decode cX7_who 133 = .ok (.aload_n 0, 1) := by decide +kernel
theorem dX7_who_134 : decode cX7_who 134 = .ok (.bipush 40, 2) := by decide +kernel
theorem dX7_who_136 : decode cX7_who 136 = .ok (.iload_n 3, 1) := by decide +kernel
theorem dX7_who_137 : decode cX7_who 137 = .ok (.imul, 1) := by decide +kernel
theorem dX7_who_138 : decode cX7_who 138 = .ok (.iload 4, 2) := by decide +kernel
theorem dX7_who_140 : decode cX7_who 140 = .ok (.iadd, 1) := by decide +kernel
theorem dX7_who_141 : decode cX7_who 141 = .ok (.iload 5, 2) := by decide +kernel
theorem dX7_who_143 : decode cX7_who 143 = .ok (.invokevirtual 273, 3) := by decide +kernel
theorem dX7_who_146 : decode cX7_who 146 = .ok (.ifCond .eq 10, 3) := by decide +kernel
theorem dX7_who_149 : decode cX7_who 149 = .ok (.iconst 1, 1) := by decide +kernel
theorem dX7_who_150 : decode cX7_who 150 = .ok (.iload 9, 2) := by decide +kernel
theorem dX7_who_152 : decode cX7_who 152 = .ok (.ishl, 1) := by decide +kernel
theorem dX7_who_153 : decode cX7_who 153 = .ok (.goto 4, 3) := by decide +kernel
theorem dX7_who_156 : decode cX7_who 156 = .ok (.iconst 0, 1) := by decide +kernel
theorem dX7_who_157 : decode cX7_who 157 = .ok (.ior, 1) := by decide +kernel
theorem dX7_who_158 : decode cX7_who 158 = .ok (.istore 7, 2) := by decide +kernel
theorem dX7_who_160 : decode cX7_who 160 = .ok (.iinc 9 1, 3) := by decide +kernel
theorem dX7_who_163 : decode cX7_who 163 = .ok (.goto (-57), 3) := by decide +kernel
theorem dX7_who_166 : decode cX7_who 166 = .ok (.iload 7, 2) := by decide +kernel
theorem dX7_who_168 : decode cX7_who 168 = .ok (.ireturn, 1) := by decide +kernel
theorem dX7_restarts_0 : decode cX7_restarts 0 = .ok (.iconst 0, 1) := by decide +kernel
theorem dX7_restarts_1 : decode cX7_restarts 1 = .ok (.istore_n 1, 1) := by decide +kernel
theorem dX7_restarts_2 : decode cX7_restarts 2 = .ok (.iconst 0, 1) := by decide +kernel
theorem dX7_restarts_3 : decode cX7_restarts 3 = .ok (.istore_n 2, 1) := by decide +kernel
theorem dX7_restarts_4 : decode cX7_restarts 4 = .ok (.iload_n 2, 1) := by decide +kernel
theorem dX7_restarts_5 : decode cX7_restarts 5 = .ok (.aload_n 0, 1) := by decide +kernel
theorem dX7_restarts_6 : decode cX7_restarts 6 = .ok (.getfield 19, 3) := by decide +kernel
theorem dX7_restarts_9 : decode cX7_restarts 9 = .ok (.iconst 0, 1) := by decide +kernel
theorem dX7_restarts_10 : decode cX7_restarts 10 = .ok (.iaload, 1) := by decide +kernel
theorem dX7_restarts_11 : decode cX7_restarts 11 = .ok (.if_icmp .ge 32, 3) := by decide +kernel
theorem dX7_restarts_14 : decode cX7_restarts 14 = .ok (.iload_n 1, 1) := by decide +kernel
theorem dX7_restarts_15 : decode cX7_restarts 15 = .ok (.aload_n 0, 1) := by decide +kernel
theorem dX7_restarts_16 : decode cX7_restarts 16 = .ok (.getfield 19, 3) := by decide +kernel
theorem dX7_restarts_19 : decode cX7_restarts 19 = .ok (.iload_n 2, 1) := by decide +kernel
theorem dX7_restarts_20 : decode cX7_restarts 20 = .ok (.iconst 0, 1) := by decide +kernel
theorem dX7_restarts_21 : decode cX7_restarts 21 = .ok (.invokestatic 165, 3) := by decide +kernel
theorem dX7_restarts_24 : decode cX7_restarts 24 = .ok (.iconst 2, 1) := by decide +kernel
theorem dX7_restarts_25 : decode cX7_restarts 25 = .ok (.if_icmp .ne 9, 3) := by decide +kernel
theorem dX7_restarts_28 : decode cX7_restarts 28 = .ok (.iconst 1, 1) := by decide +kernel
theorem dX7_restarts_29 : decode cX7_restarts 29 = .ok (.iload_n 2, 1) := by decide +kernel
theorem dX7_restarts_30 : decode cX7_restarts 30 = .ok (.ishl, 1) := by decide +kernel
theorem dX7_restarts_31 : decode cX7_restarts 31 = .ok (.goto 4, 3) := by decide +kernel
theorem dX7_restarts_34 : decode cX7_restarts 34 = .ok (.iconst 0, 1) := by decide +kernel
theorem dX7_restarts_35 : decode cX7_restarts 35 = .ok (.ior, 1) := by decide +kernel
theorem dX7_restarts_36 : decode cX7_restarts 36 = .ok (.istore_n 1, 1) := by decide +kernel
theorem dX7_restarts_37 : decode cX7_restarts 37 = .ok (.iinc 2 1, 3) := by decide +kernel
theorem dX7_restarts_40 : decode cX7_restarts 40 = .ok (.goto (-36), 3) := by decide +kernel
theorem dX7_restarts_43 : decode cX7_restarts 43 = .ok (.iload_n 1, 1) := by decide +kernel
theorem dX7_restarts_44 : decode cX7_restarts 44 = .ok (.ireturn, 1) := by decide +kernel
theorem dX7_bits_0 : decode cX7_bits 0 = .ok (.iconst 0, 1) := by decide +kernel
theorem dX7_bits_1 : decode cX7_bits 1 = .ok (.istore_n 1, 1) := by decide +kernel
theorem dX7_bits_2 : decode cX7_bits 2 = .ok (.iconst 0, 1) := by decide +kernel
theorem dX7_bits_3 : decode cX7_bits 3 = .ok (.istore_n 2, 1) := by decide +kernel
theorem dX7_bits_4 : decode cX7_bits 4 = .ok (.iload_n 2, 1) := by decide +kernel
theorem dX7_bits_5 : decode cX7_bits 5 = .ok (.bipush 24, 2) := by decide +kernel
theorem dX7_bits_7 : decode cX7_bits 7 = .ok (.if_icmp .ge 17, 3) := by decide +kernel
theorem dX7_bits_10 : decode cX7_bits 10 = .ok (.iload_n 1, 1) := by decide +kernel
theorem dX7_bits_11 : decode cX7_bits 11 = .ok (.iload_n 0, 1) := by decide +kernel
theorem dX7_bits_12 : decode cX7_bits 12 = .ok (.iload_n 2, 1) := by decide +kernel
theorem dX7_bits_13 : decode cX7_bits 13 = .ok (.ishr, 1) := by decide +kernel
theorem dX7_bits_14 : decode cX7_bits 14 = .ok (.iconst 1, 1) := by decide +kernel
theorem dX7_bits_15 : decode cX7_bits 15 = .ok (.iand, 1) := by decide +kernel
theorem dX7_bits_16 : decode cX7_bits 16 = .ok (.iadd, 1) := by decide +kernel
theorem dX7_bits_17 : decode cX7_bits 17 = .ok (.istore_n 1, 1) := by decide +kernel
theorem dX7_bits_18 : decode cX7_bits 18 = .ok (.iinc 2 1, 3) := by decide +kernel
theorem dX7_bits_21 : decode cX7_bits 21 = .ok (.goto (-17), 3) := by decide +kernel
theorem dX7_bits_24 : decode cX7_bits 24 = .ok (.iload_n 1, 1) := by decide +kernel
theorem dX7_bits_25 : decode cX7_bits 25 = .ok (.ireturn, 1) := by decide +kernel
theorem dX7_lost_0 : decode cX7_lost 0 = .ok (.aload_n 0, 1) := by decide +kernel
theorem dX7_lost_1 : decode cX7_lost 1 = .ok (.iconst 0, 1) := by decide +kernel
theorem dX7_lost_2 : decode cX7_lost 2 = .ok (.putfield 59, 3) := by decide +kernel
theorem dX7_lost_5 : decode cX7_lost 5 = .ok (.aload_n 0, 1) := by decide +kernel
theorem dX7_lost_6 : decode cX7_lost 6 = .ok (.iload_n 1, 1) := by decide +kernel
theorem dX7_lost_7 : decode cX7_lost 7 = .ok (.invokevirtual 222, 3) := by decide +kernel
theorem dX7_lost_10 : decode cX7_lost 10 = .ok (.ifCond .eq 38, 3) := by decide +kernel
theorem dX7_lost_13 : decode cX7_lost 13 = .ok (.iload_n 2, 1) := by decide +kernel
theorem dX7_lost_14 : decode cX7_lost 14 = .ok (.i2l, 1) := by decide +kernel
theorem dX7_lost_15 : decode cX7_lost 15 = .ok (.lconst 0, 1) := by decide +kernel
theorem dX7_lost_16 : decode cX7_lost 16 = .ok (.ldc2_w 264, 3) := by decide +kernel
theorem dX7_lost_19 : decode cX7_lost 19 = .ok (.invokestatic 69, 3) := by decide +kernel
theorem dX7_lost_22 : decode cX7_lost 22 = .ok (.ifCond .eq 26, 3) := by decide +kernel
theorem dX7_lost_25 : decode cX7_lost 25 = .ok (.iload_n 3, 1) := by decide +kernel
theorem dX7_lost_26 : decode cX7_lost 26 = .ok (.i2l, 1) := by decide +kernel
theorem dX7_lost_27 : decode cX7_lost 27 = .ok (.lconst 0, 1) := by decide +kernel
theorem dX7_lost_28 : decode cX7_lost 28 = .ok (.ldc2_w 276, 3) := by decide +kernel
theorem dX7_lost_31 : decode cX7_lost 31 = .ok (.invokestatic 69, 3) := by decide +kernel
theorem dX7_lost_34 : decode cX7_lost 34 = .ok (.ifCond .eq 14, 3) := by decide +kernel
theorem dX7_lost_37 : decode cX7_lost 37 = .ok (.iload 4, 2) := by decide +kernel
theorem dX7_lost_39 : decode cX7_lost 39 = .ok (.i2l, 1) := by decide +kernel
theorem dX7_lost_40 : decode cX7_lost 40 = .ok (.lconst 0, 1) := by decide +kernel
theorem dX7_lost_41 : decode cX7_lost 41 = .ok (.lconst 1, 1) := by decide +kernel
theorem dX7_lost_42 : decode cX7_lost 42 = .ok (.invokestatic 69, 3) := by decide +kernel
theorem dX7_lost_45 : decode cX7_lost 45 = .ok (.ifCond .ne 7, 3) := by decide +kernel
theorem dX7_lost_48 : decode cX7_lost 48 = .ok (.ldc2_w 278, 3) := by decide +kernel
theorem dX7_lost_51 : decode cX7_lost 51 = .ok (.lreturn, 1) := by decide +kernel
theorem dX7_lost_52 : decode cX7_lost 52 = .ok (.aload_n 0, 1) := by decide +kernel
theorem dX7_lost_53 : decode cX7_lost 53 = .ok (.invokevirtual 280, 3) := by decide +kernel
theorem dX7_lost_56 : decode cX7_lost 56 = .ok (.istore 5, 2) := by decide +kernel
theorem dX7_lost_58 : decode cX7_lost 58 = .ok (.iload 5, 2) := by decide +kernel
theorem dX7_lost_60 : decode cX7_lost 60 = .ok (.invokestatic 283, 3) := by decide +kernel
theorem dX7_lost_63 : decode cX7_lost 63 = .ok (.iconst 5, 1) := by decide +kernel
theorem dX7_lost_64 : decode cX7_lost 64 = .ok (.if_icmp .le 7, 3) := by decide +kernel
theorem dX7_lost_67 : decode cX7_lost 67 = .ok (.ldc2_w 286, 3) := by decide +kernel
theorem dX7_lost_70 : decode cX7_lost 70 = .ok (.lreturn, 1) := by decide +kernel
theorem dX7_lost_71 : decode cX7_lost 71 = .ok (.lconst 0, 1) := by decide +kernel
theorem dX7_lost_72 : decode cX7_lost 72 = .ok (.lstore 6, 2) := by decide +kernel
theorem dX7_lost_74 : decode cX7_lost 74 = .ok (.lconst 0, 1) := by decide +kernel
theorem dX7_lost_75 : decode cX7_lost 75 = .ok (.lstore 8, 2) := by decide +kernel
theorem dX7_lost_77 : decode cX7_lost 77 = .ok (.iconst 0, 1) := by decide +kernel
theorem dX7_lost_78 : decode cX7_lost 78 = .ok (.istore 10, 2) := by decide +kernel
theorem dX7_lost_80 : decode cX7_lost 80 = .ok (.iload 10, 2) := by decide +kernel
theorem dX7_lost_82 : decode cX7_lost 82 = .ok (.iconst 1, 1) := by decide +kernel
theorem dX7_lost_83 : decode cX7_lost 83 = .ok (.iload 5, 2) := by decide +kernel
theorem dX7_lost_85 : decode cX7_lost 85 = .ok (.invokestatic 283, 3) := by decide +kernel
theorem dX7_lost_88 : decode cX7_lost 88 = .ok (.ishl, 1) := by decide +kernel
theorem dX7_lost_89 : decode cX7_lost 89 = .ok (.if_icmp .ge 145, 3) := by decide +kernel
theorem dX7_lost_92 : decode cX7_lost 92 = .ok (.lconst 1, 1) := by decide +kernel
theorem dX7_lost_93 : decode cX7_lost 93 = .ok (.lstore 11, 2) := by decide +kernel
theorem dX7_lost_95 : decode cX7_lost 95 = .ok (.iload 10, 2) := by decide +kernel
theorem dX7_lost_97 : decode cX7_lost 97 = .ok (.istore 13, 2) := by decide +kernel
theorem dX7_lost_99 : decode cX7_lost 99 = .ok (.aload_n 0, 1) := by decide +kernel
theorem dX7_lost_100 : decode cX7_lost 100 = .ok (.invokevirtual 257, 3) := by decide +kernel
theorem dX7_lost_103 : decode cX7_lost 103 = .ok (.iconst 0, 1) := by decide +kernel
theorem dX7_lost_104 : decode cX7_lost 104 = .ok (.istore 14, 2) := by decide +kernel
theorem dX7_lost_106 : decode cX7_lost 106 = .ok (.iload 14, 2) := by decide +kernel
theorem dX7_lost_108 : decode cX7_lost 108 = .ok (.aload_n 0, 1) := by decide +kernel
theorem dX7_lost_109 : decode cX7_lost 109 = .ok (.getfield 19, 3) := by decide +kernel
theorem dX7_lost_112 : decode cX7_lost 112 = .ok (.iconst 0, 1) := by decide +kernel
theorem dX7_lost_113 : decode cX7_lost 113 = .ok (.iaload, 1) := by decide +kernel
theorem dX7_lost_114 : decode cX7_lost 114 = .ok (.if_icmp .ge 75, 3) := by decide +kernel
theorem dX7_lost_117 : decode cX7_lost 117 = .ok (.iload 5, 2) := by decide +kernel
theorem dX7_lost_119 : decode cX7_lost 119 = .ok (.iload 14, 2) := by decide +kernel
theorem dX7_lost_121 : decode cX7_lost 121 = .ok (.invokestatic 288, 3) := by decide +kernel
theorem dX7_lost_124 : decode cX7_lost 124 = .ok (.ifCond .eq 59, 3) := by decide +kernel
theorem dX7_lost_127 : decode cX7_lost 127 = .ok (.lload 11, 2) := by decide +kernel
theorem dX7_lost_129 : decode cX7_lost 129 = .ok (.iload 13, 2) := by decide +kernel
theorem dX7_lost_131 : decode cX7_lost 131 = .ok (.iconst 1, 1) := by decide +kernel
theorem dX7_lost_132 : decode cX7_lost 132 = .ok (.iand, 1) := by decide +kernel
theorem dX7_lost_133 : decode cX7_lost 133 = .ok (.iconst 1, 1) := by decide +kernel
theorem dX7_lost_134 : decode cX7_lost 134 = .ok (.if_icmp .ne 8, 3) := by decide +kernel
theorem dX7_lost_137 : decode cX7_lost 137 = .ok (.iload_n 3, 1) := by decide +kernel
theorem dX7_lost_138 : decode cX7_lost 138 = .ok (.i2l, 1) := by decide +kernel
theorem dX7_lost_139 : decode cX7_lost 139 = .ok (.goto 9, 3) := by decide +kernel
theorem dX7_lost_142 : decode cX7_lost 142 = .ok (.ldc2_w 276, 3) := by decide +kernel
theorem dX7_lost_145 : decode cX7_lost 145 = .ok (.iload_n 3, 1) := by decide +kernel
theorem dX7_lost_146 : decode cX7_lost 146 = .ok (.i2l, 1) := by decide +kernel
theorem dX7_lost_147 : decode cX7_lost 147 = .ok (.lsub, 1) := by decide +kernel
theorem dX7_lost_148 : decode cX7_lost 148 = .ok (.lmul, 1) := by decide +kernel
theorem dX7_lost_149 : decode cX7_lost 149 = .ok (.lstore 11, 2) := by decide +kernel
theorem dX7_lost_151 : decode cX7_lost 151 = .ok (.aload_n 0, 1) := by decide +kernel
theorem dX7_lost_152 : decode cX7_lost 152 = .ok (.getfield 25, 3) := by decide +kernel
theorem dX7_lost_155 : decode cX7_lost 155 = .ok (.iconst 4, 1) := by decide +kernel
theorem dX7_lost_156 : decode cX7_lost 156 = .ok (.iconst 3, 1) := by decide +kernel
theorem dX7_lost_157 : decode cX7_lost 157 = .ok (.iload 14, 2) := by decide +kernel
theorem dX7_lost_159 : decode cX7_lost 159 = .ok (.imul, 1) := by decide +kernel
theorem dX7_lost_160 : decode cX7_lost 160 = .ok (.iadd, 1) := by decide +kernel
theorem dX7_lost_161 : decode cX7_lost 161 = .ok (.iconst 0, 1) := by decide +kernel
theorem dX7_lost_162 : decode cX7_lost 162 = .ok (.iadd, 1) := by decide +kernel
theorem dX7_lost_163 : decode cX7_lost 163 = .ok (.iload 13, 2) := by decide +kernel
theorem dX7_lost_165 : decode cX7_lost 165 = .ok (.iconst 1, 1) := by decide +kernel
theorem dX7_lost_166 : decode cX7_lost 166 = .ok (.iand, 1) := by decide +kernel
theorem dX7_lost_167 : decode cX7_lost 167 = .ok (.iconst 1, 1) := by decide +kernel
theorem dX7_lost_168 : decode cX7_lost 168 = .ok (.if_icmp .ne 7, 3) := by decide +kernel
theorem dX7_lost_171 : decode cX7_lost 171 = .ok (.iconst 1, 1) := by decide +kernel
theorem dX7_lost_172 : decode cX7_lost 172 = .ok (.goto 4, 3) := by decide +kernel
theorem dX7_lost_175 : decode cX7_lost 175 = .ok (.iconst 2, 1) := by decide +kernel
theorem dX7_lost_176 : decode cX7_lost 176 = .ok (.iastore, 1) := by decide +kernel
theorem dX7_lost_177 : decode cX7_lost 177 = .ok (.iload 13, 2) := by decide +kernel
theorem dX7_lost_179 : decode cX7_lost 179 = .ok (.iconst 1, 1) := by decide +kernel
theorem dX7_lost_180 : decode cX7_lost 180 = .ok (.ishr, 1) := by decide +kernel
theorem dX7_lost_181 : decode cX7_lost 181 = .ok (.istore 13, 2) := by decide +kernel
theorem dX7_lost_183 : decode cX7_lost 183 = .ok (.iinc 14 1, 3) := by decide +kernel
theorem dX7_lost_186 : decode cX7_lost 186 = .ok (.goto (-80), 3) := by decide +kernel
theorem dX7_lost_189 : decode cX7_lost 189 = .ok (.aload_n 0, 1) := by decide +kernel
theorem dX7_lost_190 : decode cX7_lost 190 = .ok (.aload_n 0, 1) := by decide +kernel
theorem dX7_lost_191 : decode cX7_lost 191 = .ok (.getfield 25, 3) := by decide +kernel
theorem dX7_lost_194 : decode cX7_lost 194 = .ok (.invokevirtual 231, 3) := by decide +kernel
theorem dX7_lost_197 : decode cX7_lost 197 = .ok (.lload 8, 2) := by decide +kernel
theorem dX7_lost_199 : decode cX7_lost 199 = .ok (.lload 11, 2) := by decide +kernel
theorem dX7_lost_201 : decode cX7_lost 201 = .ok (.ladd, 1) := by decide +kernel
theorem dX7_lost_202 : decode cX7_lost 202 = .ok (.lstore 8, 2) := by decide +kernel
theorem dX7_lost_204 : decode cX7_lost 204 = .ok (.lload 6, 2) := by decide +kernel
theorem dX7_lost_206 : decode cX7_lost 206 = .ok (.aload_n 0, 1) := by decide +kernel
theorem dX7_lost_207 : decode cX7_lost 207 = .ok (.aload_n 0, 1) := by decide +kernel
theorem dX7_lost_208 : decode cX7_lost 208 = .ok (.getfield 25, 3) := by decide +kernel
theorem dX7_lost_211 : decode cX7_lost 211 = .ok (.iload_n 1, 1) := by decide +kernel
theorem dX7_lost_212 : decode cX7_lost 212 = .ok (.invokevirtual 269, 3) := by decide +kernel
theorem dX7_lost_215 : decode cX7_lost 215 = .ok (.iload_n 2, 1) := by decide +kernel
theorem dX7_lost_216 : decode cX7_lost 216 = .ok (.if_icmp .ne 8, 3) := by decide +kernel
theorem dX7_lost_219 : decode cX7_lost 219 = .ok (.lload 11, 2) := by decide +kernel
theorem dX7_lost_221 : decode cX7_lost 221 = .ok (.goto 4, 3) := by decide +kernel
theorem dX7_lost_224 : decode cX7_lost 224 = .ok (.lconst 0, 1) := by decide +kernel
theorem dX7_lost_225 : decode cX7_lost 225 = .ok (.ladd, 1) := by decide +kernel
theorem dX7_lost_226 : decode cX7_lost 226 = .ok (.lstore 6, 2) := by decide +kernel
theorem dX7_lost_228 : decode cX7_lost 228 = .ok (.iinc 10 1, 3) := by decide +kernel
theorem dX7_lost_231 : decode cX7_lost 231 = .ok (.goto (-151), 3) := by decide +kernel
theorem dX7_lost_234 : decode cX7_lost 234 = .ok (.lload 6, 2) := by decide +kernel
theorem dX7_lost_236 : decode cX7_lost 236 = .ok (.lstore 10, 2) := by decide +kernel
theorem dX7_lost_238 : decode cX7_lost 238 = .ok (.lload 8, 2) := by decide +kernel
theorem dX7_lost_240 : decode cX7_lost 240 = .ok (.lstore 12, 2) := by decide +kernel
theorem dX7_lost_242 : decode cX7_lost 242 = .ok (.lload 12, 2) := by decide +kernel
theorem dX7_lost_244 : decode cX7_lost 244 = .ok (.lconst 0, 1) := by decide +kernel
theorem dX7_lost_245 : decode cX7_lost 245 = .ok (.lcmp, 1) := by decide +kernel
theorem dX7_lost_246 : decode cX7_lost 246 = .ok (.ifCond .eq 21, 3) := by decide +kernel
theorem dX7_lost_249 : decode cX7_lost 249 = .ok (.lload 10, 2) := by decide +kernel
theorem dX7_lost_251 : decode cX7_lost 251 = .ok (.lload 12, 2) := by decide +kernel
theorem dX7_lost_253 : decode cX7_lost 253 = .ok (.lrem, 1) := by decide +kernel
theorem dX7_lost_254 : decode cX7_lost 254 = .ok (.lstore 14, 2) := by decide +kernel
theorem dX7_lost_256 : decode cX7_lost 256 = .ok (.lload 12, 2) := by decide +kernel
theorem dX7_lost_258 : decode cX7_lost 258 = .ok (.lstore 10, 2) := by decide +kernel
theorem dX7_lost_260 : decode cX7_lost 260 = .ok (.lload 14, 2) := by decide +kernel
theorem dX7_lost_262 : decode cX7_lost 262 = .ok (.lstore 12, 2) := by decide +kernel
theorem dX7_lost_264 : decode cX7_lost 264 = .ok (.goto (-22), 3) := by decide +kernel
theorem dX7_lost_267 : decode cX7_lost 267 = .ok (.iload 4, 2) := by decide +kernel
theorem dX7_lost_269 : decode cX7_lost 269 = .ok (.ifCond .ne 8, 3) := by decide +kernel
theorem dX7_lost_272 : decode cX7_lost 272 = .ok (.lload 6, 2) := by decide +kernel
theorem dX7_lost_274 : decode cX7_lost 274 = .ok (.goto 5, 3) := by decide +kernel
theorem dX7_lost_277 : decode cX7_lost 277 = .ok (.lload 8, 2) := by decide +kernel
theorem dX7_lost_279 : decode cX7_lost 279 = .ok (.lload 10, 2) := by decide +kernel
theorem dX7_lost_281 : decode cX7_lost 281 = .ok (.ldiv, 1) := by decide +kernel
theorem dX7_lost_282 : decode cX7_lost 282 = .ok (.lreturn, 1) := by decide +kernel
theorem dX7_drawn_0 : decode cX7_drawn 0 = .ok (.aload_n 0, 1) := by decide +kernel
theorem dX7_drawn_1 : decode cX7_drawn 1 = .ok (.iconst 0, 1) := by decide +kernel
theorem dX7_drawn_2 : decode cX7_drawn 2 = .ok (.putfield 59, 3) := by decide +kernel
theorem dX7_drawn_5 : decode cX7_drawn 5 = .ok (.aload_n 0, 1) := by decide +kernel
theorem dX7_drawn_6 : decode cX7_drawn 6 = .ok (.invokevirtual 211, 3) := by decide +kernel
theorem dX7_drawn_9 : decode cX7_drawn 9 = .ok (.ifCond .ne 6, 3) := by decide +kernel
theorem dX7_drawn_12 : decode cX7_drawn 12 = .ok (.ldc 214, 2) := by decide +kernel
theorem dX7_drawn_14 : decode cX7_drawn 14 = .ok (.ireturn, 1) := by decide +kernel
theorem dX7_drawn_15 : decode cX7_drawn 15 = .ok (.iload_n 1, 1) := by decide +kernel
theorem dX7_drawn_16 : decode cX7_drawn 16 = .ok (.i2l, 1) := by decide +kernel
theorem dX7_drawn_17 : decode cX7_drawn 17 = .ok (.lconst 0, 1) := by decide +kernel
theorem dX7_drawn_18 : decode cX7_drawn 18 = .ok (.ldc2_w 291, 3) := by decide +kernel
theorem dX7_drawn_21 : decode cX7_drawn 21 = .ok (.invokestatic 69, 3) := by decide +kernel
theorem dX7_drawn_24 : decode cX7_drawn 24 = .ok (.ifCond .eq 25, 3) := by decide +kernel
theorem dX7_drawn_27 : decode cX7_drawn 27 = .ok (.iload_n 2, 1) := by decide +kernel
theorem dX7_drawn_28 : decode cX7_drawn 28 = .ok (.i2l, 1) := by decide +kernel
theorem dX7_drawn_29 : decode cX7_drawn 29 = .ok (.lconst 1, 1) := by decide +kernel
theorem dX7_drawn_30 : decode cX7_drawn 30 = .ok (.ldc2_w 293, 3) := by decide +kernel
theorem dX7_drawn_33 : decode cX7_drawn 33 = .ok (.invokestatic 69, 3) := by decide +kernel
theorem dX7_drawn_36 : decode cX7_drawn 36 = .ok (.ifCond .eq 13, 3) := by decide +kernel
theorem dX7_drawn_39 : decode cX7_drawn 39 = .ok (.iload_n 3, 1) := by decide +kernel
theorem dX7_drawn_40 : decode cX7_drawn 40 = .ok (.i2l, 1) := by decide +kernel
theorem dX7_drawn_41 : decode cX7_drawn 41 = .ok (.lconst 0, 1) := by decide +kernel
theorem dX7_drawn_42 : decode cX7_drawn 42 = .ok (.lconst 1, 1) := by decide +kernel
theorem dX7_drawn_43 : decode cX7_drawn 43 = .ok (.invokestatic 69, 3) := by decide +kernel
theorem dX7_drawn_46 : decode cX7_drawn 46 = .ok (.ifCond .ne 6, 3) := by decide +kernel
theorem dX7_drawn_49 : decode cX7_drawn 49 = .ok (.ldc 79, 2) := by decide +kernel
theorem dX7_drawn_51 : decode cX7_drawn 51 = .ok (.ireturn, 1) := by decide +kernel
theorem dX7_drawn_52 : decode cX7_drawn 52 = .ok (.aload_n 0, 1) := by decide +kernel
theorem dX7_drawn_53 : decode cX7_drawn 53 = .ok (.invokevirtual 257, 3) := by decide +kernel
theorem dX7_drawn_56 : decode cX7_drawn 56 = .ok (.iload_n 2, 1) := by decide +kernel
theorem dX7_drawn_57 : decode cX7_drawn 57 = .ok (.i2l, 1) := by decide +kernel
theorem dX7_drawn_58 : decode cX7_drawn 58 = .ok (.lstore 4, 2) := by decide +kernel
theorem dX7_drawn_60 : decode cX7_drawn 60 = .ok (.iconst 0, 1) := by decide +kernel
theorem dX7_drawn_61 : decode cX7_drawn 61 = .ok (.istore 6, 2) := by decide +kernel
theorem dX7_drawn_63 : decode cX7_drawn 63 = .ok (.iload 6, 2) := by decide +kernel
theorem dX7_drawn_65 : decode cX7_drawn 65 = .ok (.iload_n 1, 1) := by decide +kernel
theorem dX7_drawn_66 : decode cX7_drawn 66 = .ok (.if_icmp .ge 126, 3) := by decide +kernel
theorem dX7_drawn_69 : decode cX7_drawn 69 = .ok (.lload 4, 2) := by decide +kernel
theorem dX7_drawn_71 : decode cX7_drawn 71 = .ok (.ldc2_w 295, 3) := by decide +kernel
theorem dX7_drawn_74 : decode cX7_drawn 74 = .ok (.lmul, 1) := by decide +kernel
theorem dX7_drawn_75 : decode cX7_drawn 75 = .ok (.ldc2_w 297, 3) := by decide +kernel
theorem dX7_drawn_78 : decode cX7_drawn 78 = .ok (.lrem, 1) := by decide +kernel
theorem dX7_drawn_79 : decode cX7_drawn 79 = .ok (.lstore 4, 2) := by decide +kernel
theorem dX7_drawn_81 : decode cX7_drawn 81 = .ok (.lload 4, 2) := by decide +kernel
theorem dX7_drawn_83 : decode cX7_drawn 83 = .ok (.ldc2_w 299, 3) := by decide +kernel
theorem dX7_drawn_86 : decode cX7_drawn 86 = .ok (.ldiv, 1) := by decide +kernel
theorem dX7_drawn_87 : decode cX7_drawn 87 = .ok (.aload_n 0, 1) := by decide +kernel
theorem dX7_drawn_88 : decode cX7_drawn 88 = .ok (.getfield 25, 3) := by decide +kernel
theorem dX7_drawn_91 : decode cX7_drawn 91 = .ok (.iconst 0, 1) := by decide +kernel
theorem dX7_drawn_92 : decode cX7_drawn 92 = .ok (.iaload, 1) := by decide +kernel
theorem dX7_drawn_93 : decode cX7_drawn 93 = .ok (.i2l, 1) := by decide +kernel
theorem dX7_drawn_94 : decode cX7_drawn 94 = .ok (.lrem, 1) := by decide +kernel
theorem dX7_drawn_95 : decode cX7_drawn 95 = .ok (.l2i, 1) := by decide +kernel
theorem dX7_drawn_96 : decode cX7_drawn 96 = .ok (.istore 7, 2) := by decide +kernel
theorem dX7_drawn_98 : decode cX7_drawn 98 = .ok (.lload 4, 2) := by decide +kernel
theorem dX7_drawn_100 : decode cX7_drawn 100 = .ok (.ldc2_w 77, 3) := by decide +kernel
theorem dX7_drawn_103 : decode cX7_drawn 103 = .ok (.lrem, 1) := by decide +kernel
theorem dX7_drawn_104 : decode cX7_drawn 104 = .ok (.lconst 0, 1) := by decide +kernel
theorem dX7_drawn_105 : decode cX7_drawn 105 = .ok (.lcmp, 1) := by decide +kernel
theorem dX7_drawn_106 : decode cX7_drawn 106 = .ok (.ifCond .ne 61, 3) := by decide +kernel
theorem dX7_drawn_109 : decode cX7_drawn 109 = .ok (.aload_n 0, 1) := by decide +kernel
theorem dX7_drawn_110 : decode cX7_drawn 110 = .ok (.getfield 25, 3) := by decide +kernel
theorem dX7_drawn_113 : decode cX7_drawn 113 = .ok (.iconst 0, 1) := by decide +kernel
theorem dX7_drawn_114 : decode cX7_drawn 114 = .ok (.iaload, 1) := by decide +kernel
theorem dX7_drawn_115 : decode cX7_drawn 115 = .ok (.bipush 24, 2) := by decide +kernel
theorem dX7_drawn_117 : decode cX7_drawn 117 = .ok (.if_icmp .ge 50, 3) := by decide +kernel
theorem dX7_drawn_120 : decode cX7_drawn 120 = .ok (.aload_n 0, 1) := by decide +kernel
theorem dX7_drawn_121 : decode cX7_drawn 121 = .ok (.getfield 25, 3) := by decide +kernel
theorem dX7_drawn_124 : decode cX7_drawn 124 = .ok (.iload 7, 2) := by decide +kernel
theorem dX7_drawn_126 : decode cX7_drawn 126 = .ok (.iconst 1, 1) := by decide +kernel
theorem dX7_drawn_127 : decode cX7_drawn 127 = .ok (.lload 4, 2) := by decide +kernel
theorem dX7_drawn_129 : decode cX7_drawn 129 = .ok (.ldc2_w 301, 3) := by decide +kernel
theorem dX7_drawn_132 : decode cX7_drawn 132 = .ok (.ldiv, 1) := by decide +kernel
theorem dX7_drawn_133 : decode cX7_drawn 133 = .ok (.ldc2_w 207, 3) := by decide +kernel
theorem dX7_drawn_136 : decode cX7_drawn 136 = .ok (.lrem, 1) := by decide +kernel
theorem dX7_drawn_137 : decode cX7_drawn 137 = .ok (.l2i, 1) := by decide +kernel
theorem dX7_drawn_138 : decode cX7_drawn 138 = .ok (.iadd, 1) := by decide +kernel
theorem dX7_drawn_139 : decode cX7_drawn 139 = .ok (.lload 4, 2) := by decide +kernel
theorem dX7_drawn_141 : decode cX7_drawn 141 = .ok (.ldc2_w 303, 3) := by decide +kernel
theorem dX7_drawn_144 : decode cX7_drawn 144 = .ok (.ldiv, 1) := by decide +kernel
theorem dX7_drawn_145 : decode cX7_drawn 145 = .ok (.ldc2_w 229, 3) := by decide +kernel
theorem dX7_drawn_148 : decode cX7_drawn 148 = .ok (.lrem, 1) := by decide +kernel
theorem dX7_drawn_149 : decode cX7_drawn 149 = .ok (.l2i, 1) := by decide +kernel
theorem dX7_drawn_150 : decode cX7_drawn 150 = .ok (.lload 4, 2) := by decide +kernel
theorem dX7_drawn_152 : decode cX7_drawn 152 = .ok (.ldc2_w 305, 3) := by decide +kernel
theorem dX7_drawn_155 : decode cX7_drawn 155 = .ok (.ldiv, 1) := by decide +kernel
theorem dX7_drawn_156 : decode cX7_drawn 156 = .ok (.ldc2_w 307, 3) := by decide +kernel
theorem dX7_drawn_159 : decode cX7_drawn 159 = .ok (.lrem, 1) := by decide +kernel
theorem dX7_drawn_160 : decode cX7_drawn 160 = .ok (.l2i, 1) := by decide +kernel
theorem dX7_drawn_161 : decode cX7_drawn 161 = .ok (.invokestatic 204, 3) := by decide +kernel
theorem dX7_drawn_164 : decode cX7_drawn 164 = .ok (.goto 22, 3) := by decide +kernel
theorem dX7_drawn_167 : decode cX7_drawn 167 = .ok (.aload_n 0, 1) := by decide +kernel
theorem dX7_drawn_168 : decode cX7_drawn 168 = .ok (.getfield 25, 3) := by decide +kernel
theorem dX7_drawn_171 : decode cX7_drawn 171 = .ok (.iconst 0, 1) := by decide +kernel
theorem dX7_drawn_172 : decode cX7_drawn 172 = .ok (.iaload, 1) := by decide +kernel
theorem dX7_drawn_173 : decode cX7_drawn 173 = .ok (.iconst 1, 1) := by decide +kernel
theorem dX7_drawn_174 : decode cX7_drawn 174 = .ok (.if_icmp .le 12, 3) := by decide +kernel
theorem dX7_drawn_177 : decode cX7_drawn 177 = .ok (.aload_n 0, 1) := by decide +kernel
theorem dX7_drawn_178 : decode cX7_drawn 178 = .ok (.getfield 25, 3) := by decide +kernel
theorem dX7_drawn_181 : decode cX7_drawn 181 = .ok (.iload 7, 2) := by decide +kernel
theorem dX7_drawn_183 : decode cX7_drawn 183 = .ok (.invokestatic 201, 3) := by decide +kernel
theorem dX7_drawn_186 : decode cX7_drawn 186 = .ok (.iinc 6 1, 3) := by decide +kernel
theorem dX7_drawn_189 : decode cX7_drawn 189 = .ok (.goto (-126), 3) := by decide +kernel
theorem dX7_drawn_192 : decode cX7_drawn 192 = .ok (.aload_n 0, 1) := by decide +kernel
theorem dX7_drawn_193 : decode cX7_drawn 193 = .ok (.aload_n 0, 1) := by decide +kernel
theorem dX7_drawn_194 : decode cX7_drawn 194 = .ok (.getfield 25, 3) := by decide +kernel
theorem dX7_drawn_197 : decode cX7_drawn 197 = .ok (.invokevirtual 231, 3) := by decide +kernel
theorem dX7_drawn_200 : decode cX7_drawn 200 = .ok (.iload_n 3, 1) := by decide +kernel
theorem dX7_drawn_201 : decode cX7_drawn 201 = .ok (.ifCond .ne 12, 3) := by decide +kernel
theorem dX7_drawn_204 : decode cX7_drawn 204 = .ok (.aload_n 0, 1) := by decide +kernel
theorem dX7_drawn_205 : decode cX7_drawn 205 = .ok (.getfield 25, 3) := by decide +kernel
theorem dX7_drawn_208 : decode cX7_drawn 208 = .ok (.iconst 0, 1) := by decide +kernel
theorem dX7_drawn_209 : decode cX7_drawn 209 = .ok (.iaload, 1) := by decide +kernel
theorem dX7_drawn_210 : decode cX7_drawn 210 = .ok (.goto 11, 3) := by decide +kernel
theorem dX7_drawn_213 : decode cX7_drawn 213 = .ok (.aload_n 0, 1) := by decide +kernel
theorem dX7_drawn_214 : decode cX7_drawn 214 = .ok (.aload_n 0, 1) := by decide +kernel
theorem dX7_drawn_215 : decode cX7_drawn 215 = .ok (.getfield 25, 3) := by decide +kernel
theorem dX7_drawn_218 : decode cX7_drawn 218 = .ok (.invokevirtual 309, 3) := by decide +kernel
theorem dX7_drawn_221 : decode cX7_drawn 221 = .ok (.ireturn, 1) := by decide +kernel
theorem dX7_image_0 : decode cX7_image 0 = .ok (.aload_n 0, 1) := by decide +kernel
theorem dX7_image_1 : decode cX7_image 1 = .ok (.iconst 0, 1) := by decide +kernel
theorem dX7_image_2 : decode cX7_image 2 = .ok (.putfield 59, 3) := by decide +kernel
theorem dX7_image_5 : decode cX7_image 5 = .ok (.iload_n 1, 1) := by decide +kernel
theorem dX7_image_6 : decode cX7_image 6 = .ok (.i2l, 1) := by decide +kernel
theorem dX7_image_7 : decode cX7_image 7 = .ok (.lconst 0, 1) := by decide +kernel
theorem dX7_image_8 : decode cX7_image 8 = .ok (.lconst 1, 1) := by decide +kernel
theorem dX7_image_9 : decode cX7_image 9 = .ok (.invokestatic 69, 3) := by decide +kernel
theorem dX7_image_12 : decode cX7_image 12 = .ok (.ifCond .ne 6, 3) := by decide +kernel
theorem dX7_image_15 : decode cX7_image 15 = .ok (.ldc 79, 2) := by decide +kernel
theorem dX7_image_17 : decode cX7_image 17 = .ok (.ireturn, 1) := by decide +kernel
theorem dX7_image_18 : decode cX7_image 18 = .ok (.aload_n 0, 1) := by decide +kernel
theorem dX7_image_19 : decode cX7_image 19 = .ok (.invokevirtual 211, 3) := by decide +kernel
theorem dX7_image_22 : decode cX7_image 22 = .ok (.ifCond .ne 6, 3) := by decide +kernel
theorem dX7_image_25 : decode cX7_image 25 = .ok (.ldc 214, 2) := by decide +kernel
theorem dX7_image_27 : decode cX7_image 27 = .ok (.ireturn, 1) := by decide +kernel
theorem dX7_image_28 : decode cX7_image 28 = .ok (.iconst 0, 1) := by decide +kernel
theorem dX7_image_29 : decode cX7_image 29 = .ok (.istore_n 2, 1) := by decide +kernel
theorem dX7_image_30 : decode cX7_image 30 = .ok (.iload_n 2, 1) := by decide +kernel
theorem dX7_image_31 : decode cX7_image 31 = .ok (.bipush 76, 2) := by decide +kernel
theorem dX7_image_33 : decode cX7_image 33 = .ok (.if_icmp .ge 26, 3) := by decide +kernel
theorem dX7_image_36 : decode cX7_image 36 = .ok (.aload_n 0, 1) := by decide +kernel
theorem dX7_image_37 : decode cX7_image 37 = .ok (.getfield 53, 3) := by decide +kernel
theorem dX7_image_40 : decode cX7_image 40 = .ok (.bipush 76, 2) := by decide +kernel
theorem dX7_image_42 : decode cX7_image 42 = .ok (.iload_n 1, 1) := by decide +kernel
theorem dX7_image_43 : decode cX7_image 43 = .ok (.imul, 1) := by decide +kernel
theorem dX7_image_44 : decode cX7_image 44 = .ok (.iload_n 2, 1) := by decide +kernel
theorem dX7_image_45 : decode cX7_image 45 = .ok (.iadd, 1) := by decide +kernel
theorem dX7_image_46 : decode cX7_image 46 = .ok (.aload_n 0, 1) := by decide +kernel
theorem dX7_image_47 : decode cX7_image 47 = .ok (.getfield 19, 3) := by decide +kernel
theorem dX7_image_50 : decode cX7_image 50 = .ok (.iload_n 2, 1) := by decide +kernel
theorem dX7_image_51 : decode cX7_image 51 = .ok (.iaload, 1) := by decide +kernel
theorem dX7_image_52 : decode cX7_image 52 = .ok (.iastore, 1) := by decide +kernel
theorem dX7_image_53 : decode cX7_image 53 = .ok (.iinc 2 1, 3) := by decide +kernel
theorem dX7_image_56 : decode cX7_image 56 = .ok (.goto (-26), 3) := by decide +kernel
theorem dX7_image_59 : decode cX7_image 59 = .ok (.aload_n 0, 1) := by decide +kernel
theorem dX7_image_60 : decode cX7_image 60 = .ok (.getfield 49, 3) := by decide +kernel
theorem dX7_image_63 : decode cX7_image 63 = .ok (.iload_n 1, 1) := by decide +kernel
theorem dX7_image_64 : decode cX7_image 64 = .ok (.iconst 1, 1) := by decide +kernel
theorem dX7_image_65 : decode cX7_image 65 = .ok (.bastore, 1) := by decide +kernel
theorem dX7_image_66 : decode cX7_image 66 = .ok (.iconst 1, 1) := by decide +kernel
theorem dX7_image_67 : decode cX7_image 67 = .ok (.ireturn, 1) := by decide +kernel
theorem dX7_restore_0 : decode cX7_restore 0 = .ok (.aload_n 0, 1) := by decide +kernel
theorem dX7_restore_1 : decode cX7_restore 1 = .ok (.iconst 0, 1) := by decide +kernel
theorem dX7_restore_2 : decode cX7_restore 2 = .ok (.putfield 59, 3) := by decide +kernel
theorem dX7_restore_5 : decode cX7_restore 5 = .ok (.iload_n 1, 1) := by decide +kernel
theorem dX7_restore_6 : decode cX7_restore 6 = .ok (.i2l, 1) := by decide +kernel
theorem dX7_restore_7 : decode cX7_restore 7 = .ok (.lconst 0, 1) := by decide +kernel
theorem dX7_restore_8 : decode cX7_restore 8 = .ok (.lconst 1, 1) := by decide +kernel
theorem dX7_restore_9 : decode cX7_restore 9 = .ok (.invokestatic 69, 3) := by decide +kernel
theorem dX7_restore_12 : decode cX7_restore 12 = .ok (.ifCond .ne 6, 3) := by decide +kernel
theorem dX7_restore_15 : decode cX7_restore 15 = .ok (.ldc 79, 2) := by decide +kernel
theorem dX7_restore_17 : decode cX7_restore 17 = .ok (.ireturn, 1) := by decide +kernel
theorem dX7_restore_18 : decode cX7_restore 18 = .ok (.aload_n 0, 1) := by decide +kernel
theorem dX7_restore_19 : decode cX7_restore 19 = .ok (.getfield 49, 3) := by decide +kernel
theorem dX7_restore_22 : decode cX7_restore 22 = .ok (.iload_n 1, 1) := by decide +kernel
theorem dX7_restore_23 : decode cX7_restore 23 = .ok (.baload, 1) := by decide +kernel
theorem dX7_restore_24 : decode cX7_restore 24 = .ok (.ifCond .ne 6, 3) := by decide +kernel
theorem dX7_restore_27 : decode cX7_restore 27 = .ok (.ldc 214, 2) := by decide +kernel
theorem dX7_restore_29 : decode cX7_restore 29 = .ok (.ireturn, 1) := by decide +kernel
theorem dX7_restore_30 : decode cX7_restore 30 = .ok (.iconst 0, 1) := by decide +kernel
theorem dX7_restore_31 : decode cX7_restore 31 = .ok (.istore_n 2, 1) := by decide +kernel
theorem dX7_restore_32 : decode cX7_restore 32 = .ok (.iload_n 2, 1) := by decide +kernel
theorem dX7_restore_33 : decode cX7_restore 33 = .ok (.bipush 76, 2) := by decide +kernel
theorem dX7_restore_35 : decode cX7_restore 35 = .ok (.if_icmp .ge 26, 3) := by decide +kernel
theorem dX7_restore_38 : decode cX7_restore 38 = .ok (.aload_n 0, 1) := by decide +kernel
theorem dX7_restore_39 : decode cX7_restore 39 = .ok (.getfield 19, 3) := by decide +kernel
theorem dX7_restore_42 : decode cX7_restore 42 = .ok (.iload_n 2, 1) := by decide +kernel
theorem dX7_restore_43 : decode cX7_restore 43 = .ok (.aload_n 0, 1) := by decide +kernel
theorem dX7_restore_44 : decode cX7_restore 44 = .ok (.getfield 53, 3) := by decide +kernel
theorem dX7_restore_47 : decode cX7_restore 47 = .ok (.bipush 76, 2) := by decide +kernel
theorem dX7_restore_49 : decode cX7_restore 49 = .ok (.iload_n 1, 1) := by decide +kernel
theorem dX7_restore_50 : decode cX7_restore 50 = .ok (.imul, 1) := by decide +kernel
theorem dX7_restore_51 : decode cX7_restore 51 = .ok (.iload_n 2, 1) := by decide +kernel
theorem dX7_restore_52 : decode cX7_restore 52 = .ok (.iadd, 1) := by decide +kernel
theorem dX7_restore_53 : decode cX7_restore 53 = .ok (.iaload, 1) := by decide +kernel
theorem dX7_restore_54 : decode cX7_restore 54 = .ok (.iastore, 1) := by decide +kernel
theorem dX7_restore_55 : decode cX7_restore 55 = .ok (.iinc 2 1, 3) := by decide +kernel
theorem dX7_restore_58 : decode cX7_restore 58 = .ok (.goto (-26), 3) := by decide +kernel
theorem dX7_restore_61 : decode cX7_restore 61 = .ok (.aload_n 0, 1) := by decide +kernel
theorem dX7_restore_62 : decode cX7_restore 62 = .ok (.iconst 0, 1) := by decide +kernel
theorem dX7_restore_63 : decode cX7_restore 63 = .ok (.putfield 162, 3) := by decide +kernel
theorem dX7_restore_66 : decode cX7_restore 66 = .ok (.iconst 1, 1) := by decide +kernel
theorem dX7_restore_67 : decode cX7_restore 67 = .ok (.ireturn, 1) := by decide +kernel
theorem dX7_isOf_0 : decode cX7_isOf 0 = .ok (.iload_n 1, 1) := by decide +kernel
theorem dX7_isOf_1 : decode cX7_isOf 1 = .ok (.ifCond .eq 28, 3) := by decide +kernel
theorem dX7_isOf_4 : decode cX7_isOf 4 = .ok (.iload_n 0, 1) := by decide +kernel
theorem dX7_isOf_5 : decode cX7_isOf 5 = .ok (.iload_n 1, 1) := by decide +kernel
theorem dX7_isOf_6 : decode cX7_isOf 6 = .ok (.if_icmp .eq 23, 3) := by decide +kernel
theorem dX7_isOf_9 : decode cX7_isOf 9 = .ok (.iload_n 1, 1) := by decide +kernel
theorem dX7_isOf_10 : decode cX7_isOf 10 = .ok (.iconst 1, 1) := by decide +kernel
theorem dX7_isOf_11 : decode cX7_isOf 11 = .ok (.if_icmp .ne 8, 3) := by decide +kernel
theorem dX7_isOf_14 : decode cX7_isOf 14 = .ok (.iload_n 0, 1) := by decide +kernel
theorem dX7_isOf_15 : decode cX7_isOf 15 = .ok (.iconst 4, 1) := by decide +kernel
theorem dX7_isOf_16 : decode cX7_isOf 16 = .ok (.if_icmp .lt 13, 3) := by decide +kernel
theorem dX7_isOf_19 : decode cX7_isOf 19 = .ok (.iload_n 1, 1) := by decide +kernel
theorem dX7_isOf_20 : decode cX7_isOf 20 = .ok (.iconst 4, 1) := by decide +kernel
theorem dX7_isOf_21 : decode cX7_isOf 21 = .ok (.if_icmp .ne 12, 3) := by decide +kernel
theorem dX7_isOf_24 : decode cX7_isOf 24 = .ok (.iload_n 0, 1) := by decide +kernel
theorem dX7_isOf_25 : decode cX7_isOf 25 = .ok (.iconst 5, 1) := by decide +kernel
theorem dX7_isOf_26 : decode cX7_isOf 26 = .ok (.if_icmp .ne 7, 3) := by decide +kernel
theorem dX7_isOf_29 : decode cX7_isOf 29 = .ok (.iconst 1, 1) := by decide +kernel
theorem dX7_isOf_30 : decode cX7_isOf 30 = .ok (.goto 4, 3) := by decide +kernel
theorem dX7_isOf_33 : decode cX7_isOf 33 = .ok (.iconst 0, 1) := by decide +kernel
theorem dX7_isOf_34 : decode cX7_isOf 34 = .ok (.ireturn, 1) := by decide +kernel
theorem dX7_kind_0 : decode cX7_kind 0 = .ok (.aload_n 0, 1) := by decide +kernel
theorem dX7_kind_1 : decode cX7_kind 1 = .ok (.iconst 0, 1) := by decide +kernel
theorem dX7_kind_2 : decode cX7_kind 2 = .ok (.putfield 59, 3) := by decide +kernel
theorem dX7_kind_5 : decode cX7_kind 5 = .ok (.aload_n 0, 1) := by decide +kernel
theorem dX7_kind_6 : decode cX7_kind 6 = .ok (.iload_n 1, 1) := by decide +kernel
theorem dX7_kind_7 : decode cX7_kind 7 = .ok (.invokevirtual 222, 3) := by decide +kernel
theorem dX7_kind_10 : decode cX7_kind 10 = .ok (.ifCond .eq 15, 3) := by decide +kernel
theorem dX7_kind_13 : decode cX7_kind 13 = .ok (.aload_n 0, 1) := by decide +kernel
theorem dX7_kind_14 : decode cX7_kind 14 = .ok (.getfield 19, 3) := by decide +kernel
theorem dX7_kind_17 : decode cX7_kind 17 = .ok (.iload_n 1, 1) := by decide +kernel
theorem dX7_kind_18 : decode cX7_kind 18 = .ok (.iconst 0, 1) := by decide +kernel
theorem dX7_kind_19 : decode cX7_kind 19 = .ok (.invokestatic 165, 3) := by decide +kernel
theorem dX7_kind_22 : decode cX7_kind 22 = .ok (.goto 5, 3) := by decide +kernel
theorem dX7_kind_25 : decode cX7_kind 25 = .ok (.ldc 79, 2) := by decide +kernel
theorem dX7_kind_27 : decode cX7_kind 27 = .ok (.ireturn, 1) := by decide +kernel
theorem dX7_as_0 : decode cX7_as 0 = .ok (.aload_n 0, 1) := by decide +kernel
theorem dX7_as_1 : decode cX7_as 1 = .ok (.iconst 0, 1) := by decide +kernel
theorem dX7_as_2 : decode cX7_as 2 = .ok (.putfield 59, 3) := by decide +kernel
theorem dX7_as_5 : decode cX7_as 5 = .ok (.aload_n 0, 1) := by decide +kernel
theorem dX7_as_6 : decode cX7_as 6 = .ok (.iload_n 1, 1) := by decide +kernel
theorem dX7_as_7 : decode cX7_as 7 = .ok (.invokevirtual 222, 3) := by decide +kernel
theorem dX7_as_10 : decode cX7_as 10 = .ok (.ifCond .eq 15, 3) := by decide +kernel
theorem dX7_as_13 : decode cX7_as 13 = .ok (.iload_n 2, 1) := by decide +kernel
theorem dX7_as_14 : decode cX7_as 14 = .ok (.i2l, 1) := by decide +kernel
theorem dX7_as_15 : decode cX7_as 15 = .ok (.lconst 0, 1) := by decide +kernel
theorem dX7_as_16 : decode cX7_as 16 = .ok (.ldc2_w 207, 3) := by decide +kernel
theorem dX7_as_19 : decode cX7_as 19 = .ok (.invokestatic 69, 3) := by decide +kernel
theorem dX7_as_22 : decode cX7_as 22 = .ok (.ifCond .ne 6, 3) := by decide +kernel
theorem dX7_as_25 : decode cX7_as 25 = .ok (.ldc 79, 2) := by decide +kernel
theorem dX7_as_27 : decode cX7_as 27 = .ok (.ireturn, 1) := by decide +kernel
theorem dX7_as_28 : decode cX7_as 28 = .ok (.aload_n 0, 1) := by decide +kernel
theorem dX7_as_29 : decode cX7_as 29 = .ok (.iconst 0, 1) := by decide +kernel
theorem dX7_as_30 : decode cX7_as 30 = .ok (.putfield 63, 3) := by decide +kernel
theorem dX7_as_33 : decode cX7_as 33 = .ok (.aload_n 0, 1) := by decide +kernel
theorem dX7_as_34 : decode cX7_as 34 = .ok (.getfield 19, 3) := by decide +kernel
theorem dX7_as_37 : decode cX7_as 37 = .ok (.iload_n 1, 1) := by decide +kernel
theorem dX7_as_38 : decode cX7_as 38 = .ok (.iconst 0, 1) := by decide +kernel
theorem dX7_as_39 : decode cX7_as 39 = .ok (.invokestatic 165, 3) := by decide +kernel
theorem dX7_as_42 : decode cX7_as 42 = .ok (.iload_n 2, 1) := by decide +kernel
theorem dX7_as_43 : decode cX7_as 43 = .ok (.invokestatic 313, 3) := by decide +kernel
theorem dX7_as_46 : decode cX7_as 46 = .ok (.ifCond .eq 7, 3) := by decide +kernel
theorem dX7_as_49 : decode cX7_as 49 = .ok (.iload_n 1, 1) := by decide +kernel
theorem dX7_as_50 : decode cX7_as 50 = .ok (.goto 8, 3) := by decide +kernel
theorem dX7_as_53 : decode cX7_as 53 = .ok (.aload_n 0, 1) := by decide +kernel
theorem dX7_as_54 : decode cX7_as 54 = .ok (.iconst 3, 1) := by decide +kernel
theorem dX7_as_55 : decode cX7_as 55 = .ok (.invokevirtual 80, 3) := by decide +kernel
theorem dX7_as_58 : decode cX7_as 58 = .ok (.ireturn, 1) := by decide +kernel
theorem dX7_began_0 : decode cX7_began 0 = .ok (.aload_n 0, 1) := by decide +kernel
theorem dX7_began_1 : decode cX7_began 1 = .ok (.getfield 316, 3) := by decide +kernel
theorem dX7_began_4 : decode cX7_began 4 = .ok (.bipush 16, 2) := by decide +kernel
theorem dX7_began_6 : decode cX7_began 6 = .ok (.if_icmp .ge 23, 3) := by decide +kernel
theorem dX7_began_9 : decode cX7_began 9 = .ok (.aload_n 0, 1) := by decide +kernel
theorem dX7_began_10 : decode cX7_began 10 = .ok (.getfield 56, 3) := by decide +kernel
theorem dX7_began_13 : decode cX7_began 13 = .ok (.aload_n 0, 1) := by decide +kernel
theorem dX7_began_14 : decode cX7_began 14 = .ok (.getfield 316, 3) := by decide +kernel
theorem dX7_began_17 : decode cX7_began 17 = .ok (.iload_n 1, 1) := by decide +kernel
theorem dX7_began_18 : decode cX7_began 18 = .ok (.iastore, 1) := by decide +kernel
theorem dX7_began_19 : decode cX7_began 19 = .ok (.aload_n 0, 1) := by decide +kernel
theorem dX7_began_20 : decode cX7_began 20 = .ok (.dup, 1) := by decide +kernel
theorem dX7_began_21 : decode cX7_began 21 = .ok (.getfield 316, 3) := by decide +kernel
theorem dX7_began_24 : decode cX7_began 24 = .ok (.iconst 1, 1) := by decide +kernel
theorem dX7_began_25 : decode cX7_began 25 = .ok (.iadd, 1) := by decide +kernel
theorem dX7_began_26 : decode cX7_began 26 = .ok (.putfield 316, 3) := by decide +kernel
theorem dX7_began_29 : decode cX7_began 29 = .ok (.return_, 1) := by decide +kernel
theorem dX7_plainSize_0 : decode cX7_plainSize 0 = .ok (.aload_n 0, 1) := by decide +kernel
theorem dX7_plainSize_1 : decode cX7_plainSize 1 = .ok (.bipush 10, 2) := by decide +kernel
theorem dX7_plainSize_3 : decode cX7_plainSize 3 = .ok (.invokevirtual 319, 3) := by decide +kernel
theorem dX7_plainSize_6 : decode cX7_plainSize 6 = .ok (.aload_n 0, 1) := by decide +kernel
theorem dX7_plainSize_7 : decode cX7_plainSize 7 = .ok (.getfield 19, 3) := by decide +kernel
theorem dX7_plainSize_10 : decode cX7_plainSize 10 = .ok (.iload_n 1, 1) := by decide +kernel
theorem dX7_plainSize_11 : decode cX7_plainSize 11 = .ok (.iconst 2, 1) := by decide +kernel
theorem dX7_plainSize_12 : decode cX7_plainSize 12 = .ok (.invokestatic 165, 3) := by decide +kernel
theorem dX7_plainSize_15 : decode cX7_plainSize 15 = .ok (.ireturn, 1) := by decide +kernel
theorem dX7_textSize_0 : decode cX7_textSize 0 = .ok (.aload_n 0, 1) := by decide +kernel
theorem dX7_textSize_1 : decode cX7_textSize 1 = .ok (.getfield 19, 3) := by decide +kernel
theorem dX7_textSize_4 : decode cX7_textSize 4 = .ok (.iload_n 1, 1) := by decide +kernel
theorem dX7_textSize_5 : decode cX7_textSize 5 = .ok (.iconst 0, 1) := by decide +kernel
theorem dX7_textSize_6 : decode cX7_textSize 6 = .ok (.invokestatic 165, 3) := by decide +kernel
theorem dX7_textSize_9 : decode cX7_textSize 9 = .ok (.iconst 5, 1) := by decide +kernel
theorem dX7_textSize_10 : decode cX7_textSize 10 = .ok (.if_icmp .ne 7, 3) := by decide +kernel
theorem dX7_textSize_13 : decode cX7_textSize 13 = .ok (.iconst 1, 1) := by decide +kernel
theorem dX7_textSize_14 : decode cX7_textSize 14 = .ok (.goto 4, 3) := by decide +kernel
theorem dX7_textSize_17 : decode cX7_textSize 17 = .ok (.iconst 0, 1) := by decide +kernel
theorem dX7_textSize_18 : decode cX7_textSize 18 = .ok (.istore_n 2, 1) := by decide +kernel
theorem dX7_textSize_19 : decode cX7_textSize 19 = .ok (.iload_n 2, 1) := by decide +kernel
theorem dX7_textSize_20 : decode cX7_textSize 20 = .ok (.ifCond .eq 9, 3) := by decide +kernel
theorem dX7_textSize_23 : decode cX7_textSize 23 = .ok (.aload_n 0, 1) := by decide +kernel
theorem dX7_textSize_24 : decode cX7_textSize 24 = .ok (.bipush 14, 2) := by decide +kernel
theorem dX7_textSize_26 : decode cX7_textSize 26 = .ok (.invokevirtual 319, 3) := by decide +kernel
theorem dX7_textSize_29 : decode cX7_textSize 29 = .ok (.aload_n 0, 1) := by decide +kernel
theorem dX7_textSize_30 : decode cX7_textSize 30 = .ok (.bipush 13, 2) := by decide +kernel
theorem dX7_textSize_32 : decode cX7_textSize 32 = .ok (.invokevirtual 319, 3) := by decide +kernel
theorem dX7_textSize_35 : decode cX7_textSize 35 = .ok (.aload_n 0, 1) := by decide +kernel
theorem dX7_textSize_36 : decode cX7_textSize 36 = .ok (.iload_n 1, 1) := by decide +kernel
theorem dX7_textSize_37 : decode cX7_textSize 37 = .ok (.invokevirtual 322, 3) := by decide +kernel
theorem dX7_textSize_40 : decode cX7_textSize 40 = .ok (.bipush 100, 2) := by decide +kernel
theorem dX7_textSize_42 : decode cX7_textSize 42 = .ok (.isub, 1) := by decide +kernel
theorem dX7_textSize_43 : decode cX7_textSize 43 = .ok (.istore_n 3, 1) := by decide +kernel
theorem dX7_textSize_44 : decode cX7_textSize 44 = .ok (.iload_n 2, 1) := by decide +kernel
theorem dX7_textSize_45 : decode cX7_textSize 45 = .ok (.ifCond .eq 9, 3) := by decide +kernel
theorem dX7_textSize_48 : decode cX7_textSize 48 = .ok (.iconst 2, 1) := by decide +kernel
theorem dX7_textSize_49 : decode cX7_textSize 49 = .ok (.iload_n 3, 1) := by decide +kernel
theorem dX7_textSize_50 : decode cX7_textSize 50 = .ok (.imul, 1) := by decide +kernel
theorem dX7_textSize_51 : decode cX7_textSize 51 = .ok (.goto 4, 3) := by decide +kernel
theorem dX7_textSize_54 : decode cX7_textSize 54 = .ok (.iload_n 3, 1) := by decide +kernel
theorem dX7_textSize_55 : decode cX7_textSize 55 = .ok (.ireturn, 1) := by decide +kernel
theorem dX7_markOf_0 : decode cX7_markOf 0 = .ok (.aload_n 0, 1) := by decide +kernel
theorem dX7_markOf_1 : decode cX7_markOf 1 = .ok (.getfield 19, 3) := by decide +kernel
theorem dX7_markOf_4 : decode cX7_markOf 4 = .ok (.iload_n 1, 1) := by decide +kernel
theorem dX7_markOf_5 : decode cX7_markOf 5 = .ok (.iconst 0, 1) := by decide +kernel
theorem dX7_markOf_6 : decode cX7_markOf 6 = .ok (.invokestatic 165, 3) := by decide +kernel
theorem dX7_markOf_9 : decode cX7_markOf 9 = .ok (.istore_n 2, 1) := by decide +kernel
theorem dX7_markOf_10 : decode cX7_markOf 10 = .ok (.iload_n 2, 1) := by decide +kernel
theorem dX7_markOf_11 : decode cX7_markOf 11 = .ok (.iconst 4, 1) := by decide +kernel
theorem dX7_markOf_12 : decode cX7_markOf 12 = .ok (.if_icmp .lt 23, 3) := by decide +kernel
theorem dX7_markOf_15 : decode cX7_markOf 15 = .ok (.aload_n 0, 1) := by decide +kernel
theorem dX7_markOf_16 : decode cX7_markOf 16 = .ok (.bipush 23, 2) := by decide +kernel
theorem dX7_markOf_18 : decode cX7_markOf 18 = .ok (.invokevirtual 319, 3) := by decide +kernel
theorem dX7_markOf_21 : decode cX7_markOf 21 = .ok (.aload_n 0, 1) := by decide +kernel
theorem dX7_markOf_22 : decode cX7_markOf 22 = .ok (.bipush 20, 2) := by decide +kernel
theorem dX7_markOf_24 : decode cX7_markOf 24 = .ok (.invokevirtual 319, 3) := by decide +kernel
theorem dX7_markOf_27 : decode cX7_markOf 27 = .ok (.iload_n 1, 1) := by decide +kernel
theorem dX7_markOf_28 : decode cX7_markOf 28 = .ok (.aload_n 0, 1) := by decide +kernel
theorem dX7_markOf_29 : decode cX7_markOf 29 = .ok (.iload_n 1, 1) := by decide +kernel
theorem dX7_markOf_30 : decode cX7_markOf 30 = .ok (.invokevirtual 325, 3) := by decide +kernel
theorem dX7_markOf_33 : decode cX7_markOf 33 = .ok (.isub, 1) := by decide +kernel
theorem dX7_markOf_34 : decode cX7_markOf 34 = .ok (.ireturn, 1) := by decide +kernel
theorem dX7_markOf_35 : decode cX7_markOf 35 = .ok (.iload_n 2, 1) := by decide +kernel
theorem dX7_markOf_36 : decode cX7_markOf 36 = .ok (.iconst 1, 1) := by decide +kernel
theorem dX7_markOf_37 : decode cX7_markOf 37 = .ok (.if_icmp .eq 19, 3) := by decide +kernel
theorem dX7_markOf_40 : decode cX7_markOf 40 = .ok (.aload_n 0, 1) := by decide +kernel
theorem dX7_markOf_41 : decode cX7_markOf 41 = .ok (.iload_n 2, 1) := by decide +kernel
theorem dX7_markOf_42 : decode cX7_markOf 42 = .ok (.iconst 3, 1) := by decide +kernel
theorem dX7_markOf_43 : decode cX7_markOf 43 = .ok (.if_icmp .ne 8, 3) := by decide +kernel
theorem dX7_markOf_46 : decode cX7_markOf 46 = .ok (.bipush 22, 2) := by decide +kernel
theorem dX7_markOf_48 : decode cX7_markOf 48 = .ok (.goto 5, 3) := by decide +kernel
theorem dX7_markOf_51 : decode cX7_markOf 51 = .ok (.bipush 24, 2) := by decide +kernel
theorem dX7_markOf_53 : decode cX7_markOf 53 = .ok (.invokevirtual 319, 3) := by decide +kernel
theorem dX7_markOf_56 : decode cX7_markOf 56 = .ok (.aload_n 0, 1) := by decide +kernel
theorem dX7_markOf_57 : decode cX7_markOf 57 = .ok (.bipush 21, 2) := by decide +kernel
theorem dX7_markOf_59 : decode cX7_markOf 59 = .ok (.invokevirtual 319, 3) := by decide +kernel
theorem dX7_markOf_62 : decode cX7_markOf 62 = .ok (.aload_n 0, 1) := by decide +kernel
theorem dX7_markOf_63 : decode cX7_markOf 63 = .ok (.bipush 20, 2) := by decide +kernel
theorem dX7_markOf_65 : decode cX7_markOf 65 = .ok (.invokevirtual 319, 3) := by decide +kernel
theorem dX7_markOf_68 : decode cX7_markOf 68 = .ok (.iload_n 1, 1) := by decide +kernel
theorem dX7_markOf_69 : decode cX7_markOf 69 = .ok (.aload_n 0, 1) := by decide +kernel
theorem dX7_markOf_70 : decode cX7_markOf 70 = .ok (.aload_n 0, 1) := by decide +kernel
theorem dX7_markOf_71 : decode cX7_markOf 71 = .ok (.getfield 19, 3) := by decide +kernel
theorem dX7_markOf_74 : decode cX7_markOf 74 = .ok (.iload_n 1, 1) := by decide +kernel
theorem dX7_markOf_75 : decode cX7_markOf 75 = .ok (.invokevirtual 269, 3) := by decide +kernel
theorem dX7_markOf_78 : decode cX7_markOf 78 = .ok (.iadd, 1) := by decide +kernel
theorem dX7_markOf_79 : decode cX7_markOf 79 = .ok (.istore_n 3, 1) := by decide +kernel
theorem dX7_markOf_80 : decode cX7_markOf 80 = .ok (.iload_n 2, 1) := by decide +kernel
theorem dX7_markOf_81 : decode cX7_markOf 81 = .ok (.iconst 1, 1) := by decide +kernel
theorem dX7_markOf_82 : decode cX7_markOf 82 = .ok (.if_icmp .ne 7, 3) := by decide +kernel
theorem dX7_markOf_85 : decode cX7_markOf 85 = .ok (.iload_n 3, 1) := by decide +kernel
theorem dX7_markOf_86 : decode cX7_markOf 86 = .ok (.goto 19, 3) := by decide +kernel
theorem dX7_markOf_89 : decode cX7_markOf 89 = .ok (.iload_n 2, 1) := by decide +kernel
theorem dX7_markOf_90 : decode cX7_markOf 90 = .ok (.iconst 3, 1) := by decide +kernel
theorem dX7_markOf_91 : decode cX7_markOf 91 = .ok (.if_icmp .ne 11, 3) := by decide +kernel
theorem dX7_markOf_94 : decode cX7_markOf 94 = .ok (.iload_n 3, 1) := by decide +kernel
theorem dX7_markOf_95 : decode cX7_markOf 95 = .ok (.sipush 1000, 3) := by decide +kernel
theorem dX7_markOf_98 : decode cX7_markOf 98 = .ok (.isub, 1) := by decide +kernel
theorem dX7_markOf_99 : decode cX7_markOf 99 = .ok (.goto 6, 3) := by decide +kernel
theorem dX7_markOf_102 : decode cX7_markOf 102 = .ok (.iconst 2, 1) := by decide +kernel
theorem dX7_markOf_103 : decode cX7_markOf 103 = .ok (.iload_n 3, 1) := by decide +kernel
theorem dX7_markOf_104 : decode cX7_markOf 104 = .ok (.imul, 1) := by decide +kernel
theorem dX7_markOf_105 : decode cX7_markOf 105 = .ok (.ireturn, 1) := by decide +kernel
theorem dX7_sizeOf_0 : decode cX7_sizeOf 0 = .ok (.aload_n 0, 1) := by decide +kernel
theorem dX7_sizeOf_1 : decode cX7_sizeOf 1 = .ok (.getfield 19, 3) := by decide +kernel
theorem dX7_sizeOf_4 : decode cX7_sizeOf 4 = .ok (.iload_n 1, 1) := by decide +kernel
theorem dX7_sizeOf_5 : decode cX7_sizeOf 5 = .ok (.iconst 0, 1) := by decide +kernel
theorem dX7_sizeOf_6 : decode cX7_sizeOf 6 = .ok (.invokestatic 165, 3) := by decide +kernel
theorem dX7_sizeOf_9 : decode cX7_sizeOf 9 = .ok (.istore_n 2, 1) := by decide +kernel
theorem dX7_sizeOf_10 : decode cX7_sizeOf 10 = .ok (.iload_n 2, 1) := by decide +kernel
theorem dX7_sizeOf_11 : decode cX7_sizeOf 11 = .ok (.iconst 4, 1) := by decide +kernel
theorem dX7_sizeOf_12 : decode cX7_sizeOf 12 = .ok (.if_icmp .lt 9, 3) := by decide +kernel
theorem dX7_sizeOf_15 : decode cX7_sizeOf 15 = .ok (.aload_n 0, 1) := by decide +kernel
theorem dX7_sizeOf_16 : decode cX7_sizeOf 16 = .ok (.iload_n 1, 1) := by decide +kernel
theorem dX7_sizeOf_17 : decode cX7_sizeOf 17 = .ok (.invokevirtual 325, 3) := by decide +kernel
theorem dX7_sizeOf_20 : decode cX7_sizeOf 20 = .ok (.ireturn, 1) := by decide +kernel
theorem dX7_sizeOf_21 : decode cX7_sizeOf 21 = .ok (.iload_n 2, 1) := by decide +kernel
theorem dX7_sizeOf_22 : decode cX7_sizeOf 22 = .ok (.iconst 2, 1) := by decide +kernel
theorem dX7_sizeOf_23 : decode cX7_sizeOf 23 = .ok (.if_icmp .ne 9, 3) := by decide +kernel
theorem dX7_sizeOf_26 : decode cX7_sizeOf 26 = .ok (.aload_n 0, 1) := by decide +kernel
theorem dX7_sizeOf_27 : decode cX7_sizeOf 27 = .ok (.bipush 12, 2) := by decide +kernel
theorem dX7_sizeOf_29 : decode cX7_sizeOf 29 = .ok (.invokevirtual 319, 3) := by decide +kernel
theorem dX7_sizeOf_32 : decode cX7_sizeOf 32 = .ok (.aload_n 0, 1) := by decide +kernel
theorem dX7_sizeOf_33 : decode cX7_sizeOf 33 = .ok (.bipush 11, 2) := by decide +kernel
theorem dX7_sizeOf_35 : decode cX7_sizeOf 35 = .ok (.invokevirtual 319, 3) := by decide +kernel
theorem dX7_sizeOf_38 : decode cX7_sizeOf 38 = .ok (.aload_n 0, 1) := by decide +kernel
theorem dX7_sizeOf_39 : decode cX7_sizeOf 39 = .ok (.iload_n 1, 1) := by decide +kernel
theorem dX7_sizeOf_40 : decode cX7_sizeOf 40 = .ok (.invokevirtual 322, 3) := by decide +kernel
theorem dX7_sizeOf_43 : decode cX7_sizeOf 43 = .ok (.istore_n 3, 1) := by decide +kernel
theorem dX7_sizeOf_44 : decode cX7_sizeOf 44 = .ok (.iload_n 3, 1) := by decide +kernel
theorem dX7_sizeOf_45 : decode cX7_sizeOf 45 = .ok (.aload_n 0, 1) := by decide +kernel
theorem dX7_sizeOf_46 : decode cX7_sizeOf 46 = .ok (.iload_n 1, 1) := by decide +kernel
theorem dX7_sizeOf_47 : decode cX7_sizeOf 47 = .ok (.invokevirtual 328, 3) := by decide +kernel
theorem dX7_sizeOf_50 : decode cX7_sizeOf 50 = .ok (.iadd, 1) := by decide +kernel
theorem dX7_sizeOf_51 : decode cX7_sizeOf 51 = .ok (.istore_n 3, 1) := by decide +kernel
theorem dX7_sizeOf_52 : decode cX7_sizeOf 52 = .ok (.iload_n 2, 1) := by decide +kernel
theorem dX7_sizeOf_53 : decode cX7_sizeOf 53 = .ok (.iconst 2, 1) := by decide +kernel
theorem dX7_sizeOf_54 : decode cX7_sizeOf 54 = .ok (.if_icmp .ne 8, 3) := by decide +kernel
theorem dX7_sizeOf_57 : decode cX7_sizeOf 57 = .ok (.iload_n 3, 1) := by decide +kernel
theorem dX7_sizeOf_58 : decode cX7_sizeOf 58 = .ok (.ineg, 1) := by decide +kernel
theorem dX7_sizeOf_59 : decode cX7_sizeOf 59 = .ok (.goto 4, 3) := by decide +kernel
theorem dX7_sizeOf_62 : decode cX7_sizeOf 62 = .ok (.iload_n 3, 1) := by decide +kernel
theorem dX7_sizeOf_63 : decode cX7_sizeOf 63 = .ok (.ireturn, 1) := by decide +kernel
theorem dX7_ask_0 : decode cX7_ask 0 = .ok (.aload_n 0, 1) := by decide +kernel
theorem dX7_ask_1 : decode cX7_ask 1 = .ok (.iconst 0, 1) := by decide +kernel
theorem dX7_ask_2 : decode cX7_ask 2 = .ok (.putfield 59, 3) := by decide +kernel
theorem dX7_ask_5 : decode cX7_ask 5 = .ok (.aload_n 0, 1) := by decide +kernel
theorem dX7_ask_6 : decode cX7_ask 6 = .ok (.iload_n 1, 1) := by decide +kernel
theorem dX7_ask_7 : decode cX7_ask 7 = .ok (.invokevirtual 222, 3) := by decide +kernel
theorem dX7_ask_10 : decode cX7_ask 10 = .ok (.ifCond .eq 13, 3) := by decide +kernel
theorem dX7_ask_13 : decode cX7_ask 13 = .ok (.iload_n 2, 1) := by decide +kernel
theorem dX7_ask_14 : decode cX7_ask 14 = .ok (.i2l, 1) := by decide +kernel
theorem dX7_ask_15 : decode cX7_ask 15 = .ok (.lconst 0, 1) := by decide +kernel
theorem dX7_ask_16 : decode cX7_ask 16 = .ok (.lconst 1, 1) := by decide +kernel
theorem dX7_ask_17 : decode cX7_ask 17 = .ok (.invokestatic 69, 3) := by decide +kernel
theorem dX7_ask_20 : decode cX7_ask 20 = .ok (.ifCond .ne 6, 3) := by decide +kernel
theorem dX7_ask_23 : decode cX7_ask 23 = .ok (.ldc 79, 2) := by decide +kernel
theorem dX7_ask_25 : decode cX7_ask 25 = .ok (.ireturn, 1) := by decide +kernel
theorem dX7_ask_26 : decode cX7_ask 26 = .ok (.aload_n 0, 1) := by decide +kernel
theorem dX7_ask_27 : decode cX7_ask 27 = .ok (.iconst 0, 1) := by decide +kernel
theorem dX7_ask_28 : decode cX7_ask 28 = .ok (.putfield 316, 3) := by decide +kernel
theorem dX7_ask_31 : decode cX7_ask 31 = .ok (.aload_n 0, 1) := by decide +kernel
theorem dX7_ask_32 : decode cX7_ask 32 = .ok (.aload_n 0, 1) := by decide +kernel
theorem dX7_ask_33 : decode cX7_ask 33 = .ok (.getfield 19, 3) := by decide +kernel
theorem dX7_ask_36 : decode cX7_ask 36 = .ok (.invokevirtual 231, 3) := by decide +kernel
theorem dX7_ask_39 : decode cX7_ask 39 = .ok (.iload_n 2, 1) := by decide +kernel
theorem dX7_ask_40 : decode cX7_ask 40 = .ok (.ifCond .ne 11, 3) := by decide +kernel
theorem dX7_ask_43 : decode cX7_ask 43 = .ok (.aload_n 0, 1) := by decide +kernel
theorem dX7_ask_44 : decode cX7_ask 44 = .ok (.iload_n 1, 1) := by decide +kernel
theorem dX7_ask_45 : decode cX7_ask 45 = .ok (.invokevirtual 331, 3) := by decide +kernel
theorem dX7_ask_48 : decode cX7_ask 48 = .ok (.goto 8, 3) := by decide +kernel
theorem dX7_ask_51 : decode cX7_ask 51 = .ok (.aload_n 0, 1) := by decide +kernel
theorem dX7_ask_52 : decode cX7_ask 52 = .ok (.iload_n 1, 1) := by decide +kernel
theorem dX7_ask_53 : decode cX7_ask 53 = .ok (.invokevirtual 328, 3) := by decide +kernel
theorem dX7_ask_56 : decode cX7_ask 56 = .ok (.ireturn, 1) := by decide +kernel
theorem dX7_trace_0 : decode cX7_trace 0 = .ok (.aload_n 0, 1) := by decide +kernel
theorem dX7_trace_1 : decode cX7_trace 1 = .ok (.iconst 0, 1) := by decide +kernel
theorem dX7_trace_2 : decode cX7_trace 2 = .ok (.putfield 59, 3) := by decide +kernel
theorem dX7_trace_5 : decode cX7_trace 5 = .ok (.iload_n 1, 1) := by decide +kernel
theorem dX7_trace_6 : decode cX7_trace 6 = .ok (.i2l, 1) := by decide +kernel
theorem dX7_trace_7 : decode cX7_trace 7 = .ok (.lconst 0, 1) := by decide +kernel
theorem dX7_trace_8 : decode cX7_trace 8 = .ok (.aload_n 0, 1) := by decide +kernel
theorem dX7_trace_9 : decode cX7_trace 9 = .ok (.getfield 316, 3) := by decide +kernel
theorem dX7_trace_12 : decode cX7_trace 12 = .ok (.iconst 1, 1) := by decide +kernel
theorem dX7_trace_13 : decode cX7_trace 13 = .ok (.isub, 1) := by decide +kernel
theorem dX7_trace_14 : decode cX7_trace 14 = .ok (.i2l, 1) := by decide +kernel
theorem dX7_trace_15 : decode cX7_trace 15 = .ok (.invokestatic 69, 3) := by decide +kernel
theorem dX7_trace_18 : decode cX7_trace 18 = .ok (.ifCond .eq 12, 3) := by decide +kernel
theorem dX7_trace_21 : decode cX7_trace 21 = .ok (.aload_n 0, 1) := by decide +kernel
theorem dX7_trace_22 : decode cX7_trace 22 = .ok (.getfield 56, 3) := by decide +kernel
theorem dX7_trace_25 : decode cX7_trace 25 = .ok (.iload_n 1, 1) := by decide +kernel
theorem dX7_trace_26 : decode cX7_trace 26 = .ok (.iaload, 1) := by decide +kernel
theorem dX7_trace_27 : decode cX7_trace 27 = .ok (.goto 5, 3) := by decide +kernel
theorem dX7_trace_30 : decode cX7_trace 30 = .ok (.ldc 102, 2) := by decide +kernel
theorem dX7_trace_32 : decode cX7_trace 32 = .ok (.ireturn, 1) := by decide +kernel
theorem dX7_count_0 : decode cX7_count 0 = .ok (.aload_n 0, 1) := by decide +kernel
theorem dX7_count_1 : decode cX7_count 1 = .ok (.iconst 0, 1) := by decide +kernel
theorem dX7_count_2 : decode cX7_count 2 = .ok (.putfield 59, 3) := by decide +kernel
theorem dX7_count_5 : decode cX7_count 5 = .ok (.iconst 0, 1) := by decide +kernel
theorem dX7_count_6 : decode cX7_count 6 = .ok (.istore_n 2, 1) := by decide +kernel
theorem dX7_count_7 : decode cX7_count 7 = .ok (.iload_n 1, 1) := by decide +kernel
theorem dX7_count_8 : decode cX7_count 8 = .ok (.tableswitch 146 0 5 #[40, 73, 80, 119, 136, 141], 40) := by decide +kernel
theorem dX7_count_48 : decode cX7_count 48 = .ok (.iconst 0, 1) := by decide +kernel
theorem dX7_count_49 : decode cX7_count 49 = .ok (.istore_n 3, 1) := by decide +kernel
theorem dX7_count_50 : decode cX7_count 50 = .ok (.iload_n 3, 1) := by decide +kernel
theorem dX7_count_51 : decode cX7_count 51 = .ok (.bipush 8, 2) := by decide +kernel
theorem dX7_count_53 : decode cX7_count 53 = .ok (.if_icmp .ge 26, 3) := by decide +kernel
theorem dX7_count_56 : decode cX7_count 56 = .ok (.iload_n 2, 1) := by decide +kernel
theorem dX7_count_57 : decode cX7_count 57 = .ok (.aload_n 0, 1) := by decide +kernel
theorem dX7_count_58 : decode cX7_count 58 = .ok (.getfield 7, 3) := by decide +kernel
theorem dX7_count_61 : decode cX7_count 61 = .ok (.iload_n 3, 1) := by decide +kernel
theorem dX7_count_62 : decode cX7_count 62 = .ok (.iaload, 1) := by decide +kernel
theorem dX7_count_63 : decode cX7_count 63 = .ok (.ifCond .lt 7, 3) := by decide +kernel
theorem dX7_count_66 : decode cX7_count 66 = .ok (.iconst 1, 1) := by decide +kernel
theorem dX7_count_67 : decode cX7_count 67 = .ok (.goto 4, 3) := by decide +kernel
theorem dX7_count_70 : decode cX7_count 70 = .ok (.iconst 0, 1) := by decide +kernel
theorem dX7_count_71 : decode cX7_count 71 = .ok (.iadd, 1) := by decide +kernel
theorem dX7_count_72 : decode cX7_count 72 = .ok (.istore_n 2, 1) := by decide +kernel
theorem dX7_count_73 : decode cX7_count 73 = .ok (.iinc 3 1, 3) := by decide +kernel
theorem dX7_count_76 : decode cX7_count 76 = .ok (.goto (-26), 3) := by decide +kernel
theorem dX7_count_79 : decode cX7_count 79 = .ok (.iload_n 2, 1) := by decide +kernel
theorem dX7_count_80 : decode cX7_count 80 = .ok (.ireturn, 1) := by decide +kernel
theorem dX7_count_81 : decode cX7_count 81 = .ok (.aload_n 0, 1) := by decide +kernel
theorem dX7_count_82 : decode cX7_count 82 = .ok (.getfield 19, 3) := by decide +kernel
theorem dX7_count_85 : decode cX7_count 85 = .ok (.iconst 0, 1) := by decide +kernel
theorem dX7_count_86 : decode cX7_count 86 = .ok (.iaload, 1) := by decide +kernel
theorem dX7_count_87 : decode cX7_count 87 = .ok (.ireturn, 1) := by decide +kernel
theorem dX7_count_88 : decode cX7_count 88 = .ok (.iconst 0, 1) := by decide +kernel
theorem dX7_count_89 : decode cX7_count 89 = .ok (.istore_n 3, 1) := by decide +kernel
theorem dX7_count_90 : decode cX7_count 90 = .ok (.iload_n 3, 1) := by decide +kernel
theorem dX7_count_91 : decode cX7_count 91 = .ok (.aload_n 0, 1) := by decide +kernel
theorem dX7_count_92 : decode cX7_count 92 = .ok (.getfield 19, 3) := by decide +kernel
theorem dX7_count_95 : decode cX7_count 95 = .ok (.iconst 0, 1) := by decide +kernel
theorem dX7_count_96 : decode cX7_count 96 = .ok (.iaload, 1) := by decide +kernel
theorem dX7_count_97 : decode cX7_count 97 = .ok (.if_icmp .ge 28, 3) := by decide +kernel
theorem dX7_count_100 : decode cX7_count 100 = .ok (.iload_n 2, 1) := by decide +kernel
theorem dX7_count_101 : decode cX7_count 101 = .ok (.aload_n 0, 1) := by decide +kernel
theorem dX7_count_102 : decode cX7_count 102 = .ok (.getfield 19, 3) := by decide +kernel
theorem dX7_count_105 : decode cX7_count 105 = .ok (.iload_n 3, 1) := by decide +kernel
theorem dX7_count_106 : decode cX7_count 106 = .ok (.invokestatic 194, 3) := by decide +kernel
theorem dX7_count_109 : decode cX7_count 109 = .ok (.ifCond .eq 7, 3) := by decide +kernel
theorem dX7_count_112 : decode cX7_count 112 = .ok (.iconst 1, 1) := by decide +kernel
theorem dX7_count_113 : decode cX7_count 113 = .ok (.goto 4, 3) := by decide +kernel
theorem dX7_count_116 : decode cX7_count 116 = .ok (.iconst 0, 1) := by decide +kernel
theorem dX7_count_117 : decode cX7_count 117 = .ok (.iadd, 1) := by decide +kernel
theorem dX7_count_118 : decode cX7_count 118 = .ok (.istore_n 2, 1) := by decide +kernel
theorem dX7_count_119 : decode cX7_count 119 = .ok (.iinc 3 1, 3) := by decide +kernel
theorem dX7_count_122 : decode cX7_count 122 = .ok (.goto (-32), 3) := by decide +kernel
theorem dX7_count_125 : decode cX7_count 125 = .ok (.iload_n 2, 1) := by decide +kernel
theorem dX7_count_126 : decode cX7_count 126 = .ok (.ireturn, 1) := by decide +kernel
theorem dX7_count_127 : decode cX7_count 127 = .ok (.aload_n 0, 1) := by decide +kernel
theorem dX7_count_128 : decode cX7_count 128 = .ok (.aload_n 0, 1) := by decide +kernel
theorem dX7_count_129 : decode cX7_count 129 = .ok (.getfield 19, 3) := by decide +kernel
theorem dX7_count_132 : decode cX7_count 132 = .ok (.invokevirtual 231, 3) := by decide +kernel
theorem dX7_count_135 : decode cX7_count 135 = .ok (.aload_n 0, 1) := by decide +kernel
theorem dX7_count_136 : decode cX7_count 136 = .ok (.aload_n 0, 1) := by decide +kernel
theorem dX7_count_137 : decode cX7_count 137 = .ok (.getfield 19, 3) := by decide +kernel
theorem dX7_count_140 : decode cX7_count 140 = .ok (.invokevirtual 309, 3) := by decide +kernel
theorem dX7_count_143 : decode cX7_count 143 = .ok (.ireturn, 1) := by decide +kernel
theorem dX7_count_144 : decode cX7_count 144 = .ok (.aload_n 0, 1) := by decide +kernel
theorem dX7_count_145 : decode cX7_count 145 = .ok (.getfield 162, 3) := by decide +kernel
theorem dX7_count_148 : decode cX7_count 148 = .ok (.ireturn, 1) := by decide +kernel
theorem dX7_count_149 : decode cX7_count 149 = .ok (.aload_n 0, 1) := by decide +kernel
theorem dX7_count_150 : decode cX7_count 150 = .ok (.getfield 86, 3) := by decide +kernel
theorem dX7_count_153 : decode cX7_count 153 = .ok (.ireturn, 1) := by decide +kernel
theorem dX7_count_154 : decode cX7_count 154 = .ok (.ldc 79, 2) := by decide +kernel
theorem dX7_count_156 : decode cX7_count 156 = .ok (.ireturn, 1) := by decide +kernel
theorem dX7_status_0 : decode cX7_status 0 = .ok (.aload_n 0, 1) := by decide +kernel
theorem dX7_status_1 : decode cX7_status 1 = .ok (.iconst 0, 1) := by decide +kernel
theorem dX7_status_2 : decode cX7_status 2 = .ok (.putfield 59, 3) := by decide +kernel
theorem dX7_status_5 : decode cX7_status 5 = .ok (.aload_n 0, 1) := by decide +kernel
theorem dX7_status_6 : decode cX7_status 6 = .ok (.getfield 63, 3) := by decide +kernel
theorem dX7_status_9 : decode cX7_status 9 = .ok (.ireturn, 1) := by decide +kernel
