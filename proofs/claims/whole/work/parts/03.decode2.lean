theorem dX5_init_0 : decode cX5_init 0 = .ok (.aload_n 0, 1) := by decide +kernel
theorem dX5_init_1 : decode cX5_init 1 = .ok (.invokespecial 1, 3) := by decide +kernel
theorem dX5_init_4 : decode cX5_init 4 = .ok (.aload_n 0, 1) := by decide +kernel
theorem dX5_init_5 : decode cX5_init 5 = .ok (.iconst 4, 1) := by decide +kernel
theorem dX5_init_6 : decode cX5_init 6 = .ok (.newarray .int, 2) := by decide +kernel
theorem dX5_init_8 : decode cX5_init 8 = .ok (.putfield 7, 3) := by decide +kernel
theorem dX5_init_11 : decode cX5_init 11 = .ok (.aload_n 0, 1) := by decide +kernel
theorem dX5_init_12 : decode cX5_init 12 = .ok (.iconst 4, 1) := by decide +kernel
theorem dX5_init_13 : decode cX5_init 13 = .ok (.newarray .int, 2) := by decide +kernel
theorem dX5_init_15 : decode cX5_init 15 = .ok (.putfield 13, 3) := by decide +kernel
theorem dX5_init_18 : decode cX5_init 18 = .ok (.aload_n 0, 1) := by decide +kernel
theorem dX5_init_19 : decode cX5_init 19 = .ok (.sipush 240, 3) := by decide +kernel
theorem dX5_init_22 : decode cX5_init 22 = .ok (.newarray .int, 2) := by decide +kernel
theorem dX5_init_24 : decode cX5_init 24 = .ok (.putfield 16, 3) := by decide +kernel
theorem dX5_init_27 : decode cX5_init 27 = .ok (.aload_n 0, 1) := by decide +kernel
theorem dX5_init_28 : decode cX5_init 28 = .ok (.bipush 60, 2) := by decide +kernel
theorem dX5_init_30 : decode cX5_init 30 = .ok (.newarray .int, 2) := by decide +kernel
theorem dX5_init_32 : decode cX5_init 32 = .ok (.putfield 19, 3) := by decide +kernel
theorem dX5_init_35 : decode cX5_init 35 = .ok (.aload_n 0, 1) := by decide +kernel
theorem dX5_init_36 : decode cX5_init 36 = .ok (.bipush 120, 2) := by decide +kernel
theorem dX5_init_38 : decode cX5_init 38 = .ok (.newarray .int, 2) := by decide +kernel
theorem dX5_init_40 : decode cX5_init 40 = .ok (.putfield 22, 3) := by decide +kernel
theorem dX5_init_43 : decode cX5_init 43 = .ok (.aload_n 0, 1) := by decide +kernel
theorem dX5_init_44 : decode cX5_init 44 = .ok (.iconst 2, 1) := by decide +kernel
theorem dX5_init_45 : decode cX5_init 45 = .ok (.newarray .int, 2) := by decide +kernel
theorem dX5_init_47 : decode cX5_init 47 = .ok (.putfield 25, 3) := by decide +kernel
theorem dX5_init_50 : decode cX5_init 50 = .ok (.aload_n 0, 1) := by decide +kernel
theorem dX5_init_51 : decode cX5_init 51 = .ok (.bipush 39, 2) := by decide +kernel
theorem dX5_init_53 : decode cX5_init 53 = .ok (.newarray .int, 2) := by decide +kernel
theorem dX5_init_55 : decode cX5_init 55 = .ok (.putfield 28, 3) := by decide +kernel
theorem dX5_init_58 : decode cX5_init 58 = .ok (.aload_n 0, 1) := by decide +kernel
theorem dX5_init_59 : decode cX5_init 59 = .ok (.bipush 50, 2) := by decide +kernel
theorem dX5_init_61 : decode cX5_init 61 = .ok (.newarray .int, 2) := by decide +kernel
theorem dX5_init_63 : decode cX5_init 63 = .ok (.putfield 31, 3) := by decide +kernel
theorem dX5_init_66 : decode cX5_init 66 = .ok (.aload_n 0, 1) := by decide +kernel
theorem dX5_init_67 : decode cX5_init 67 = .ok (.bipush 16, 2) := by decide +kernel
theorem dX5_init_69 : decode cX5_init 69 = .ok (.newarray .int, 2) := by decide +kernel
theorem dX5_init_71 : decode cX5_init 71 = .ok (.putfield 34, 3) := by decide +kernel
theorem dX5_init_74 : decode cX5_init 74 = .ok (.aload_n 0, 1) := by decide +kernel
theorem dX5_init_75 : decode cX5_init 75 = .ok (.bipush 24, 2) := by decide +kernel
theorem dX5_init_77 : decode cX5_init 77 = .ok (.newarray .int, 2) := by decide +kernel
theorem dX5_init_79 : decode cX5_init 79 = .ok (.putfield 37, 3) := by decide +kernel
theorem dX5_init_82 : decode cX5_init 82 = .ok (.aload_n 0, 1) := by decide +kernel
theorem dX5_init_83 : decode cX5_init 83 = .ok (.iconst 2, 1) := by decide +kernel
theorem dX5_init_84 : decode cX5_init 84 = .ok (.newarray .int, 2) := by decide +kernel
theorem dX5_init_86 : decode cX5_init 86 = .ok (.putfield 40, 3) := by decide +kernel
theorem dX5_init_89 : decode cX5_init 89 = .ok (.aload_n 0, 1) := by decide +kernel
theorem dX5_init_90 : decode cX5_init 90 = .ok (.bipush 13, 2) := by decide +kernel
theorem dX5_init_92 : decode cX5_init 92 = .ok (.newarray .int, 2) := by decide +kernel
theorem dX5_init_94 : decode cX5_init 94 = .ok (.putfield 43, 3) := by decide +kernel
theorem dX5_init_97 : decode cX5_init 97 = .ok (.aload_n 0, 1) := by decide +kernel
theorem dX5_init_98 : decode cX5_init 98 = .ok (.bipush 13, 2) := by decide +kernel
theorem dX5_init_100 : decode cX5_init 100 = .ok (.newarray .int, 2) := by decide +kernel
theorem dX5_init_102 : decode cX5_init 102 = .ok (.putfield 46, 3) := by decide +kernel
theorem dX5_init_105 : decode cX5_init 105 = .ok (.aload_n 0, 1) := by decide +kernel
theorem dX5_init_106 : decode cX5_init 106 = .ok (.sipush 130, 3) := by decide +kernel
theorem dX5_init_109 : decode cX5_init 109 = .ok (.newarray .int, 2) := by decide +kernel
theorem dX5_init_111 : decode cX5_init 111 = .ok (.putfield 49, 3) := by decide +kernel
theorem dX5_init_114 : decode cX5_init 114 = .ok (.aload_n 0, 1) := by decide +kernel
theorem dX5_init_115 : decode cX5_init 115 = .ok (.bipush 16, 2) := by decide +kernel
theorem dX5_init_117 : decode cX5_init 117 = .ok (.newarray .int, 2) := by decide +kernel
theorem dX5_init_119 : decode cX5_init 119 = .ok (.putfield 52, 3) := by decide +kernel
theorem dX5_init_122 : decode cX5_init 122 = .ok (.iconst 0, 1) := by decide +kernel
theorem dX5_init_123 : decode cX5_init 123 = .ok (.istore_n 1, 1) := by decide +kernel
theorem dX5_init_124 : decode cX5_init 124 = .ok (.iload_n 1, 1) := by decide +kernel
theorem dX5_init_125 : decode cX5_init 125 = .ok (.iconst 4, 1) := by decide +kernel
theorem dX5_init_126 : decode cX5_init 126 = .ok (.if_icmp .ge 16, 3) := by decide +kernel
theorem dX5_init_129 : decode cX5_init 129 = .ok (.aload_n 0, 1) := by decide +kernel
theorem dX5_init_130 : decode cX5_init 130 = .ok (.getfield 7, 3) := by decide +kernel
theorem dX5_init_133 : decode cX5_init 133 = .ok (.iload_n 1, 1) := by decide +kernel
theorem dX5_init_134 : decode cX5_init 134 = .ok (.iconst (-1), 1) := by decide +kernel
theorem dX5_init_135 : decode cX5_init 135 = .ok (.iastore, 1) := by decide +kernel
theorem dX5_init_136 : decode cX5_init 136 = .ok (.iinc 1 1, 3) := by decide +kernel
theorem dX5_init_139 : decode cX5_init 139 = .ok (.goto (-15), 3) := by decide +kernel
theorem dX5_init_142 : decode cX5_init 142 = .ok (.aload_n 0, 1) := by decide +kernel
theorem dX5_init_143 : decode cX5_init 143 = .ok (.getfield 40, 3) := by decide +kernel
theorem dX5_init_146 : decode cX5_init 146 = .ok (.iconst 1, 1) := by decide +kernel
theorem dX5_init_147 : decode cX5_init 147 = .ok (.iconst 1, 1) := by decide +kernel
theorem dX5_init_148 : decode cX5_init 148 = .ok (.iastore, 1) := by decide +kernel
theorem dX5_init_149 : decode cX5_init 149 = .ok (.aload_n 0, 1) := by decide +kernel
theorem dX5_init_150 : decode cX5_init 150 = .ok (.iconst (-1), 1) := by decide +kernel
theorem dX5_init_151 : decode cX5_init 151 = .ok (.putfield 55, 3) := by decide +kernel
theorem dX5_init_154 : decode cX5_init 154 = .ok (.return_, 1) := by decide +kernel
theorem dX5_in_0 : decode cX5_in 0 = .ok (.lload_n 0, 1) := by decide +kernel
theorem dX5_in_1 : decode cX5_in 1 = .ok (.lload_n 2, 1) := by decide +kernel
theorem dX5_in_2 : decode cX5_in 2 = .ok (.lcmp, 1) := by decide +kernel
theorem dX5_in_3 : decode cX5_in 3 = .ok (.ifCond .lt 14, 3) := by decide +kernel
theorem dX5_in_6 : decode cX5_in 6 = .ok (.lload_n 0, 1) := by decide +kernel
theorem dX5_in_7 : decode cX5_in 7 = .ok (.lload 4, 2) := by decide +kernel
theorem dX5_in_9 : decode cX5_in 9 = .ok (.lcmp, 1) := by decide +kernel
theorem dX5_in_10 : decode cX5_in 10 = .ok (.ifCond .gt 7, 3) := by decide +kernel
theorem dX5_in_13 : decode cX5_in 13 = .ok (.iconst 1, 1) := by decide +kernel
theorem dX5_in_14 : decode cX5_in 14 = .ok (.goto 4, 3) := by decide +kernel
theorem dX5_in_17 : decode cX5_in 17 = .ok (.iconst 0, 1) := by decide +kernel
theorem dX5_in_18 : decode cX5_in 18 = .ok (.ireturn, 1) := by decide +kernel
theorem dX5_no_0 : decode cX5_no 0 = .ok (.ldc2_w 59, 3) := by decide +kernel
theorem dX5_no_3 : decode cX5_no 3 = .ok (.iload_n 0, 1) := by decide +kernel
theorem dX5_no_4 : decode cX5_no 4 = .ok (.i2l, 1) := by decide +kernel
theorem dX5_no_5 : decode cX5_no 5 = .ok (.lsub, 1) := by decide +kernel
theorem dX5_no_6 : decode cX5_no 6 = .ok (.lreturn, 1) := by decide +kernel
theorem dX5_isTwo_0 : decode cX5_isTwo 0 = .ok (.iload_n 0, 1) := by decide +kernel
theorem dX5_isTwo_1 : decode cX5_isTwo 1 = .ok (.i2l, 1) := by decide +kernel
theorem dX5_isTwo_2 : decode cX5_isTwo 2 = .ok (.lconst 0, 1) := by decide +kernel
theorem dX5_isTwo_3 : decode cX5_isTwo 3 = .ok (.lconst 1, 1) := by decide +kernel
theorem dX5_isTwo_4 : decode cX5_isTwo 4 = .ok (.invokestatic 61, 3) := by decide +kernel
theorem dX5_isTwo_7 : decode cX5_isTwo 7 = .ok (.ireturn, 1) := by decide +kernel
theorem dX5_isIn_0 : decode cX5_isIn 0 = .ok (.iload_n 0, 1) := by decide +kernel
theorem dX5_isIn_1 : decode cX5_isIn 1 = .ok (.iload_n 1, 1) := by decide +kernel
theorem dX5_isIn_2 : decode cX5_isIn 2 = .ok (.ishr, 1) := by decide +kernel
theorem dX5_isIn_3 : decode cX5_isIn 3 = .ok (.iconst 1, 1) := by decide +kernel
theorem dX5_isIn_4 : decode cX5_isIn 4 = .ok (.iand, 1) := by decide +kernel
theorem dX5_isIn_5 : decode cX5_isIn 5 = .ok (.iconst 1, 1) := by decide +kernel
theorem dX5_isIn_6 : decode cX5_isIn 6 = .ok (.if_icmp .ne 7, 3) := by decide +kernel
theorem dX5_isIn_9 : decode cX5_isIn 9 = .ok (.iconst 1, 1) := by decide +kernel
theorem dX5_isIn_10 : decode cX5_isIn 10 = .ok (.goto 4, 3) := by decide +kernel
theorem dX5_isIn_13 : decode cX5_isIn 13 = .ok (.iconst 0, 1) := by decide +kernel
theorem dX5_isIn_14 : decode cX5_isIn 14 = .ok (.ireturn, 1) := by decide +kernel
theorem dX5_ones_0 : decode cX5_ones 0 = .ok (.iconst 0, 1) := by decide +kernel
theorem dX5_ones_1 : decode cX5_ones 1 = .ok (.istore_n 1, 1) := by decide +kernel
theorem dX5_ones_2 : decode cX5_ones 2 = .ok (.iload_n 0, 1) := by decide +kernel
theorem dX5_ones_3 : decode cX5_ones 3 = .ok (.istore_n 2, 1) := by decide +kernel
theorem dX5_ones_4 : decode cX5_ones 4 = .ok (.iload_n 2, 1) := by decide +kernel
theorem dX5_ones_5 : decode cX5_ones 5 = .ok (.ifCond .eq 15, 3) := by decide +kernel
theorem dX5_ones_8 : decode cX5_ones 8 = .ok (.iinc 1 1, 3) := by decide +kernel
theorem dX5_ones_11 : decode cX5_ones 11 = .ok (.iload_n 2, 1) := by decide +kernel
theorem dX5_ones_12 : decode cX5_ones 12 = .ok (.iload_n 2, 1) := by decide +kernel
theorem dX5_ones_13 : decode cX5_ones 13 = .ok (.iconst 1, 1) := by decide +kernel
theorem dX5_ones_14 : decode cX5_ones 14 = .ok (.isub, 1) := by decide +kernel
theorem dX5_ones_15 : decode cX5_ones 15 = .ok (.iand, 1) := by decide +kernel
theorem dX5_ones_16 : decode cX5_ones 16 = .ok (.istore_n 2, 1) := by decide +kernel
theorem dX5_ones_17 : decode cX5_ones 17 = .ok (.goto (-13), 3) := by decide +kernel
theorem dX5_ones_20 : decode cX5_ones 20 = .ok (.iload_n 1, 1) := by decide +kernel
theorem dX5_ones_21 : decode cX5_ones 21 = .ok (.ireturn, 1) := by decide +kernel
theorem dX5_amount_0 : decode cX5_amount 0 = .ok (.iload_n 0, 1) := by decide +kernel
theorem dX5_amount_1 : decode cX5_amount 1 = .ok (.ifCond .ge 8, 3) := by decide +kernel
theorem dX5_amount_4 : decode cX5_amount 4 = .ok (.iload_n 0, 1) := by decide +kernel
theorem dX5_amount_5 : decode cX5_amount 5 = .ok (.ineg, 1) := by decide +kernel
theorem dX5_amount_6 : decode cX5_amount 6 = .ok (.goto 4, 3) := by decide +kernel
theorem dX5_amount_9 : decode cX5_amount 9 = .ok (.iload_n 0, 1) := by decide +kernel
theorem dX5_amount_10 : decode cX5_amount 10 = .ok (.ireturn, 1) := by decide +kernel
theorem dX5_part_0 : decode cX5_part 0 = .ok (.lload_n 0, 1) := by decide +kernel
theorem dX5_part_1 : decode cX5_part 1 = .ok (.lstore 5, 2) := by decide +kernel
theorem dX5_part_3 : decode cX5_part 3 = .ok (.lload_n 2, 1) := by decide +kernel
theorem dX5_part_4 : decode cX5_part 4 = .ok (.lstore 7, 2) := by decide +kernel
theorem dX5_part_6 : decode cX5_part 6 = .ok (.lload 7, 2) := by decide +kernel
theorem dX5_part_8 : decode cX5_part 8 = .ok (.lconst 0, 1) := by decide +kernel
theorem dX5_part_9 : decode cX5_part 9 = .ok (.lcmp, 1) := by decide +kernel
theorem dX5_part_10 : decode cX5_part 10 = .ok (.ifCond .eq 21, 3) := by decide +kernel
theorem dX5_part_13 : decode cX5_part 13 = .ok (.lload 5, 2) := by decide +kernel
theorem dX5_part_15 : decode cX5_part 15 = .ok (.lload 7, 2) := by decide +kernel
theorem dX5_part_17 : decode cX5_part 17 = .ok (.lrem, 1) := by decide +kernel
theorem dX5_part_18 : decode cX5_part 18 = .ok (.lstore 9, 2) := by decide +kernel
theorem dX5_part_20 : decode cX5_part 20 = .ok (.lload 7, 2) := by decide +kernel
theorem dX5_part_22 : decode cX5_part 22 = .ok (.lstore 5, 2) := by decide +kernel
theorem dX5_part_24 : decode cX5_part 24 = .ok (.lload 9, 2) := by decide +kernel
theorem dX5_part_26 : decode cX5_part 26 = .ok (.lstore 7, 2) := by decide +kernel
theorem dX5_part_28 : decode cX5_part 28 = .ok (.goto (-22), 3) := by decide +kernel
theorem dX5_part_31 : decode cX5_part 31 = .ok (.iload 4, 2) := by decide +kernel
theorem dX5_part_33 : decode cX5_part 33 = .ok (.ifCond .ne 7, 3) := by decide +kernel
theorem dX5_part_36 : decode cX5_part 36 = .ok (.lload_n 0, 1) := by decide +kernel
theorem dX5_part_37 : decode cX5_part 37 = .ok (.goto 4, 3) := by decide +kernel
theorem dX5_part_40 : decode cX5_part 40 = .ok (.lload_n 2, 1) := by decide +kernel
theorem dX5_part_41 : decode cX5_part 41 = .ok (.lload 5, 2) := by decide +kernel
theorem dX5_part_43 : decode cX5_part 43 = .ok (.ldiv, 1) := by decide +kernel
theorem dX5_part_44 : decode cX5_part 44 = .ok (.lreturn, 1) := by decide +kernel
theorem dX5_finds_0 : decode cX5_finds 0 = .ok (.aload_n 0, 1) := by decide +kernel
theorem dX5_finds_1 : decode cX5_finds 1 = .ok (.iload_n 1, 1) := by decide +kernel
theorem dX5_finds_2 : decode cX5_finds 2 = .ok (.putfield 65, 3) := by decide +kernel
theorem dX5_finds_5 : decode cX5_finds 5 = .ok (.bipush (-10), 2) := by decide +kernel
theorem dX5_finds_7 : decode cX5_finds 7 = .ok (.iload_n 1, 1) := by decide +kernel
theorem dX5_finds_8 : decode cX5_finds 8 = .ok (.isub, 1) := by decide +kernel
theorem dX5_finds_9 : decode cX5_finds 9 = .ok (.ireturn, 1) := by decide +kernel
theorem dX5_isSheet_0 : decode cX5_isSheet 0 = .ok (.iload_n 0, 1) := by decide +kernel
theorem dX5_isSheet_1 : decode cX5_isSheet 1 = .ok (.i2l, 1) := by decide +kernel
theorem dX5_isSheet_2 : decode cX5_isSheet 2 = .ok (.lconst 0, 1) := by decide +kernel
theorem dX5_isSheet_3 : decode cX5_isSheet 3 = .ok (.ldc2_w 68, 3) := by decide +kernel
theorem dX5_isSheet_6 : decode cX5_isSheet 6 = .ok (.invokestatic 61, 3) := by decide +kernel
theorem dX5_isSheet_9 : decode cX5_isSheet 9 = .ok (.ireturn, 1) := by decide +kernel
theorem dX5_sheet_0 : decode cX5_sheet 0 = .ok (.iload_n 1, 1) := by decide +kernel
theorem dX5_sheet_1 : decode cX5_sheet 1 = .ok (.invokestatic 70, 3) := by decide +kernel
theorem dX5_sheet_4 : decode cX5_sheet 4 = .ok (.ifCond .eq 21, 3) := by decide +kernel
theorem dX5_sheet_7 : decode cX5_sheet 7 = .ok (.iload_n 2, 1) := by decide +kernel
theorem dX5_sheet_8 : decode cX5_sheet 8 = .ok (.i2l, 1) := by decide +kernel
theorem dX5_sheet_9 : decode cX5_sheet 9 = .ok (.lconst 0, 1) := by decide +kernel
theorem dX5_sheet_10 : decode cX5_sheet 10 = .ok (.ldc2_w 74, 3) := by decide +kernel
theorem dX5_sheet_13 : decode cX5_sheet 13 = .ok (.invokestatic 61, 3) := by decide +kernel
theorem dX5_sheet_16 : decode cX5_sheet 16 = .ok (.ifCond .eq 9, 3) := by decide +kernel
theorem dX5_sheet_19 : decode cX5_sheet 19 = .ok (.iload_n 3, 1) := by decide +kernel
theorem dX5_sheet_20 : decode cX5_sheet 20 = .ok (.bipush 60, 2) := by decide +kernel
theorem dX5_sheet_22 : decode cX5_sheet 22 = .ok (.if_icmp .le 6, 3) := by decide +kernel
theorem dX5_sheet_25 : decode cX5_sheet 25 = .ok (.bipush (-2), 2) := by decide +kernel
theorem dX5_sheet_27 : decode cX5_sheet 27 = .ok (.ireturn, 1) := by decide +kernel
theorem dX5_sheet_28 : decode cX5_sheet 28 = .ok (.iload_n 3, 1) := by decide +kernel
theorem dX5_sheet_29 : decode cX5_sheet 29 = .ok (.ifCond .ge 9, 3) := by decide +kernel
theorem dX5_sheet_32 : decode cX5_sheet 32 = .ok (.aload_n 0, 1) := by decide +kernel
theorem dX5_sheet_33 : decode cX5_sheet 33 = .ok (.iconst 5, 1) := by decide +kernel
theorem dX5_sheet_34 : decode cX5_sheet 34 = .ok (.invokevirtual 76, 3) := by decide +kernel
theorem dX5_sheet_37 : decode cX5_sheet 37 = .ok (.ireturn, 1) := by decide +kernel
theorem dX5_sheet_38 : decode cX5_sheet 38 = .ok (.aload_n 0, 1) := by decide +kernel
theorem dX5_sheet_39 : decode cX5_sheet 39 = .ok (.getfield 7, 3) := by decide +kernel
theorem dX5_sheet_42 : decode cX5_sheet 42 = .ok (.iload_n 1, 1) := by decide +kernel
theorem dX5_sheet_43 : decode cX5_sheet 43 = .ok (.iload_n 2, 1) := by decide +kernel
theorem dX5_sheet_44 : decode cX5_sheet 44 = .ok (.iastore, 1) := by decide +kernel
theorem dX5_sheet_45 : decode cX5_sheet 45 = .ok (.aload_n 0, 1) := by decide +kernel
theorem dX5_sheet_46 : decode cX5_sheet 46 = .ok (.getfield 13, 3) := by decide +kernel
theorem dX5_sheet_49 : decode cX5_sheet 49 = .ok (.iload_n 1, 1) := by decide +kernel
theorem dX5_sheet_50 : decode cX5_sheet 50 = .ok (.iload_n 3, 1) := by decide +kernel
theorem dX5_sheet_51 : decode cX5_sheet 51 = .ok (.iastore, 1) := by decide +kernel
theorem dX5_sheet_52 : decode cX5_sheet 52 = .ok (.iconst 0, 1) := by decide +kernel
theorem dX5_sheet_53 : decode cX5_sheet 53 = .ok (.istore 4, 2) := by decide +kernel
theorem dX5_sheet_55 : decode cX5_sheet 55 = .ok (.iload 4, 2) := by decide +kernel
theorem dX5_sheet_57 : decode cX5_sheet 57 = .ok (.iload_n 3, 1) := by decide +kernel
theorem dX5_sheet_58 : decode cX5_sheet 58 = .ok (.if_icmp .ge 22, 3) := by decide +kernel
theorem dX5_sheet_61 : decode cX5_sheet 61 = .ok (.aload_n 0, 1) := by decide +kernel
theorem dX5_sheet_62 : decode cX5_sheet 62 = .ok (.getfield 16, 3) := by decide +kernel
theorem dX5_sheet_65 : decode cX5_sheet 65 = .ok (.bipush 60, 2) := by decide +kernel
theorem dX5_sheet_67 : decode cX5_sheet 67 = .ok (.iload_n 1, 1) := by decide +kernel
theorem dX5_sheet_68 : decode cX5_sheet 68 = .ok (.imul, 1) := by decide +kernel
theorem dX5_sheet_69 : decode cX5_sheet 69 = .ok (.iload 4, 2) := by decide +kernel
theorem dX5_sheet_71 : decode cX5_sheet 71 = .ok (.iadd, 1) := by decide +kernel
theorem dX5_sheet_72 : decode cX5_sheet 72 = .ok (.iconst 0, 1) := by decide +kernel
theorem dX5_sheet_73 : decode cX5_sheet 73 = .ok (.iastore, 1) := by decide +kernel
theorem dX5_sheet_74 : decode cX5_sheet 74 = .ok (.iinc 4 1, 3) := by decide +kernel
theorem dX5_sheet_77 : decode cX5_sheet 77 = .ok (.goto (-22), 3) := by decide +kernel
theorem dX5_sheet_80 : decode cX5_sheet 80 = .ok (.iload_n 3, 1) := by decide +kernel
theorem dX5_sheet_81 : decode cX5_sheet 81 = .ok (.ireturn, 1) := by decide +kernel
theorem dX5_lose_0 : decode cX5_lose 0 = .ok (.iload_n 1, 1) := by decide +kernel
theorem dX5_lose_1 : decode cX5_lose 1 = .ok (.invokestatic 70, 3) := by decide +kernel
theorem dX5_lose_4 : decode cX5_lose 4 = .ok (.ifCond .ne 6, 3) := by decide +kernel
theorem dX5_lose_7 : decode cX5_lose 7 = .ok (.bipush (-2), 2) := by decide +kernel
theorem dX5_lose_9 : decode cX5_lose 9 = .ok (.ireturn, 1) := by decide +kernel
theorem dX5_lose_10 : decode cX5_lose 10 = .ok (.aload_n 0, 1) := by decide +kernel
theorem dX5_lose_11 : decode cX5_lose 11 = .ok (.getfield 7, 3) := by decide +kernel
theorem dX5_lose_14 : decode cX5_lose 14 = .ok (.iload_n 1, 1) := by decide +kernel
theorem dX5_lose_15 : decode cX5_lose 15 = .ok (.iaload, 1) := by decide +kernel
theorem dX5_lose_16 : decode cX5_lose 16 = .ok (.ifCond .ge 9, 3) := by decide +kernel
theorem dX5_lose_19 : decode cX5_lose 19 = .ok (.aload_n 0, 1) := by decide +kernel
theorem dX5_lose_20 : decode cX5_lose 20 = .ok (.iconst 1, 1) := by decide +kernel
theorem dX5_lose_21 : decode cX5_lose 21 = .ok (.invokevirtual 76, 3) := by decide +kernel
theorem dX5_lose_24 : decode cX5_lose 24 = .ok (.ireturn, 1) := by decide +kernel
theorem dX5_lose_25 : decode cX5_lose 25 = .ok (.aload_n 0, 1) := by decide +kernel
theorem dX5_lose_26 : decode cX5_lose 26 = .ok (.getfield 7, 3) := by decide +kernel
theorem dX5_lose_29 : decode cX5_lose 29 = .ok (.iload_n 1, 1) := by decide +kernel
theorem dX5_lose_30 : decode cX5_lose 30 = .ok (.iconst (-1), 1) := by decide +kernel
theorem dX5_lose_31 : decode cX5_lose 31 = .ok (.iastore, 1) := by decide +kernel
theorem dX5_lose_32 : decode cX5_lose 32 = .ok (.aload_n 0, 1) := by decide +kernel
theorem dX5_lose_33 : decode cX5_lose 33 = .ok (.getfield 13, 3) := by decide +kernel
theorem dX5_lose_36 : decode cX5_lose 36 = .ok (.iload_n 1, 1) := by decide +kernel
theorem dX5_lose_37 : decode cX5_lose 37 = .ok (.iaload, 1) := by decide +kernel
theorem dX5_lose_38 : decode cX5_lose 38 = .ok (.ireturn, 1) := by decide +kernel
theorem dX5_lacks_0 : decode cX5_lacks 0 = .ok (.aload_n 0, 1) := by decide +kernel
theorem dX5_lacks_1 : decode cX5_lacks 1 = .ok (.getfield 7, 3) := by decide +kernel
theorem dX5_lacks_4 : decode cX5_lacks 4 = .ok (.iload_n 1, 1) := by decide +kernel
theorem dX5_lacks_5 : decode cX5_lacks 5 = .ok (.iaload, 1) := by decide +kernel
theorem dX5_lacks_6 : decode cX5_lacks 6 = .ok (.ifCond .ge 9, 3) := by decide +kernel
theorem dX5_lacks_9 : decode cX5_lacks 9 = .ok (.aload_n 0, 1) := by decide +kernel
theorem dX5_lacks_10 : decode cX5_lacks 10 = .ok (.iconst 1, 1) := by decide +kernel
theorem dX5_lacks_11 : decode cX5_lacks 11 = .ok (.invokevirtual 76, 3) := by decide +kernel
theorem dX5_lacks_14 : decode cX5_lacks 14 = .ok (.ireturn, 1) := by decide +kernel
theorem dX5_lacks_15 : decode cX5_lacks 15 = .ok (.aload_n 0, 1) := by decide +kernel
theorem dX5_lacks_16 : decode cX5_lacks 16 = .ok (.getfield 7, 3) := by decide +kernel
theorem dX5_lacks_19 : decode cX5_lacks 19 = .ok (.iload_n 1, 1) := by decide +kernel
theorem dX5_lacks_20 : decode cX5_lacks 20 = .ok (.iaload, 1) := by decide +kernel
theorem dX5_lacks_21 : decode cX5_lacks 21 = .ok (.iload_n 2, 1) := by decide +kernel
theorem dX5_lacks_22 : decode cX5_lacks 22 = .ok (.if_icmp .eq 9, 3) := by decide +kernel
theorem dX5_lacks_25 : decode cX5_lacks 25 = .ok (.aload_n 0, 1) := by decide +kernel
theorem dX5_lacks_26 : decode cX5_lacks 26 = .ok (.iconst 3, 1) := by decide +kernel
theorem dX5_lacks_27 : decode cX5_lacks 27 = .ok (.invokevirtual 76, 3) := by decide +kernel
theorem dX5_lacks_30 : decode cX5_lacks 30 = .ok (.ireturn, 1) := by decide +kernel
theorem dX5_lacks_31 : decode cX5_lacks 31 = .ok (.iload_n 3, 1) := by decide +kernel
theorem dX5_lacks_32 : decode cX5_lacks 32 = .ok (.i2l, 1) := by decide +kernel
theorem dX5_lacks_33 : decode cX5_lacks 33 = .ok (.lconst 0, 1) := by decide +kernel
theorem dX5_lacks_34 : decode cX5_lacks 34 = .ok (.aload_n 0, 1) := by decide +kernel
theorem dX5_lacks_35 : decode cX5_lacks 35 = .ok (.getfield 13, 3) := by decide +kernel
theorem dX5_lacks_38 : decode cX5_lacks 38 = .ok (.iload_n 1, 1) := by decide +kernel
theorem dX5_lacks_39 : decode cX5_lacks 39 = .ok (.iaload, 1) := by decide +kernel
theorem dX5_lacks_40 : decode cX5_lacks 40 = .ok (.iconst 1, 1) := by decide +kernel
theorem dX5_lacks_41 : decode cX5_lacks 41 = .ok (.isub, 1) := by decide +kernel
theorem dX5_lacks_42 : decode cX5_lacks 42 = .ok (.i2l, 1) := by decide +kernel
theorem dX5_lacks_43 : decode cX5_lacks 43 = .ok (.invokestatic 61, 3) := by decide +kernel
theorem dX5_lacks_46 : decode cX5_lacks 46 = .ok (.ifCond .eq 7, 3) := by decide +kernel
theorem dX5_lacks_49 : decode cX5_lacks 49 = .ok (.iconst 0, 1) := by decide +kernel
theorem dX5_lacks_50 : decode cX5_lacks 50 = .ok (.goto 8, 3) := by decide +kernel
theorem dX5_lacks_53 : decode cX5_lacks 53 = .ok (.aload_n 0, 1) := by decide +kernel
theorem dX5_lacks_54 : decode cX5_lacks 54 = .ok (.iconst 2, 1) := by decide +kernel
theorem dX5_lacks_55 : decode cX5_lacks 55 = .ok (.invokevirtual 76, 3) := by decide +kernel
theorem dX5_lacks_58 : decode cX5_lacks 58 = .ok (.ireturn, 1) := by decide +kernel
theorem dX5_cut_0 : decode cX5_cut 0 = .ok (.iload_n 0, 1) := by decide +kernel
theorem dX5_cut_1 : decode cX5_cut 1 = .ok (.ifCond .ne 8, 3) := by decide +kernel
theorem dX5_cut_4 : decode cX5_cut 4 = .ok (.iload_n 1, 1) := by decide +kernel
theorem dX5_cut_5 : decode cX5_cut 5 = .ok (.i2b, 1) := by decide +kernel
theorem dX5_cut_6 : decode cX5_cut 6 = .ok (.goto 14, 3) := by decide +kernel
theorem dX5_cut_9 : decode cX5_cut 9 = .ok (.iload_n 0, 1) := by decide +kernel
theorem dX5_cut_10 : decode cX5_cut 10 = .ok (.iconst 1, 1) := by decide +kernel
theorem dX5_cut_11 : decode cX5_cut 11 = .ok (.if_icmp .ne 8, 3) := by decide +kernel
theorem dX5_cut_14 : decode cX5_cut 14 = .ok (.iload_n 1, 1) := by decide +kernel
theorem dX5_cut_15 : decode cX5_cut 15 = .ok (.i2s, 1) := by decide +kernel
theorem dX5_cut_16 : decode cX5_cut 16 = .ok (.goto 4, 3) := by decide +kernel
theorem dX5_cut_19 : decode cX5_cut 19 = .ok (.iload_n 1, 1) := by decide +kernel
theorem dX5_cut_20 : decode cX5_cut 20 = .ok (.ireturn, 1) := by decide +kernel
theorem dX5_lay_0 : decode cX5_lay 0 = .ok (.iload_n 1, 1) := by decide +kernel
theorem dX5_lay_1 : decode cX5_lay 1 = .ok (.invokestatic 70, 3) := by decide +kernel
theorem dX5_lay_4 : decode cX5_lay 4 = .ok (.ifCond .eq 15, 3) := by decide +kernel
theorem dX5_lay_7 : decode cX5_lay 7 = .ok (.iload_n 2, 1) := by decide +kernel
theorem dX5_lay_8 : decode cX5_lay 8 = .ok (.i2l, 1) := by decide +kernel
theorem dX5_lay_9 : decode cX5_lay 9 = .ok (.lconst 0, 1) := by decide +kernel
theorem dX5_lay_10 : decode cX5_lay 10 = .ok (.ldc2_w 74, 3) := by decide +kernel
theorem dX5_lay_13 : decode cX5_lay 13 = .ok (.invokestatic 61, 3) := by decide +kernel
theorem dX5_lay_16 : decode cX5_lay 16 = .ok (.ifCond .ne 6, 3) := by decide +kernel
theorem dX5_lay_19 : decode cX5_lay 19 = .ok (.bipush (-2), 2) := by decide +kernel
theorem dX5_lay_21 : decode cX5_lay 21 = .ok (.ireturn, 1) := by decide +kernel
theorem dX5_lay_22 : decode cX5_lay 22 = .ok (.aload_n 0, 1) := by decide +kernel
theorem dX5_lay_23 : decode cX5_lay 23 = .ok (.iload_n 1, 1) := by decide +kernel
theorem dX5_lay_24 : decode cX5_lay 24 = .ok (.iload_n 2, 1) := by decide +kernel
theorem dX5_lay_25 : decode cX5_lay 25 = .ok (.iload_n 3, 1) := by decide +kernel
theorem dX5_lay_26 : decode cX5_lay 26 = .ok (.invokevirtual 80, 3) := by decide +kernel
theorem dX5_lay_29 : decode cX5_lay 29 = .ok (.istore 5, 2) := by decide +kernel
theorem dX5_lay_31 : decode cX5_lay 31 = .ok (.iload 5, 2) := by decide +kernel
theorem dX5_lay_33 : decode cX5_lay 33 = .ok (.ifCond .eq 6, 3) := by decide +kernel
theorem dX5_lay_36 : decode cX5_lay 36 = .ok (.iload 5, 2) := by decide +kernel
theorem dX5_lay_38 : decode cX5_lay 38 = .ok (.ireturn, 1) := by decide +kernel
theorem dX5_lay_39 : decode cX5_lay 39 = .ok (.aload_n 0, 1) := by decide +kernel
theorem dX5_lay_40 : decode cX5_lay 40 = .ok (.getfield 16, 3) := by decide +kernel
theorem dX5_lay_43 : decode cX5_lay 43 = .ok (.bipush 60, 2) := by decide +kernel
theorem dX5_lay_45 : decode cX5_lay 45 = .ok (.iload_n 1, 1) := by decide +kernel
theorem dX5_lay_46 : decode cX5_lay 46 = .ok (.imul, 1) := by decide +kernel
theorem dX5_lay_47 : decode cX5_lay 47 = .ok (.iload_n 3, 1) := by decide +kernel
theorem dX5_lay_48 : decode cX5_lay 48 = .ok (.iadd, 1) := by decide +kernel
theorem dX5_lay_49 : decode cX5_lay 49 = .ok (.iload_n 2, 1) := by decide +kernel
theorem dX5_lay_50 : decode cX5_lay 50 = .ok (.iload 4, 2) := by decide +kernel
theorem dX5_lay_52 : decode cX5_lay 52 = .ok (.invokestatic 84, 3) := by decide +kernel
theorem dX5_lay_55 : decode cX5_lay 55 = .ok (.iastore, 1) := by decide +kernel
theorem dX5_lay_56 : decode cX5_lay 56 = .ok (.iconst 1, 1) := by decide +kernel
theorem dX5_lay_57 : decode cX5_lay 57 = .ok (.ireturn, 1) := by decide +kernel
theorem dX5_get_0 : decode cX5_get 0 = .ok (.iload_n 1, 1) := by decide +kernel
theorem dX5_get_1 : decode cX5_get 1 = .ok (.invokestatic 70, 3) := by decide +kernel
theorem dX5_get_4 : decode cX5_get 4 = .ok (.ifCond .eq 25, 3) := by decide +kernel
theorem dX5_get_7 : decode cX5_get 7 = .ok (.iload_n 2, 1) := by decide +kernel
theorem dX5_get_8 : decode cX5_get 8 = .ok (.i2l, 1) := by decide +kernel
theorem dX5_get_9 : decode cX5_get 9 = .ok (.lconst 0, 1) := by decide +kernel
theorem dX5_get_10 : decode cX5_get 10 = .ok (.ldc2_w 74, 3) := by decide +kernel
theorem dX5_get_13 : decode cX5_get 13 = .ok (.invokestatic 61, 3) := by decide +kernel
theorem dX5_get_16 : decode cX5_get 16 = .ok (.ifCond .eq 13, 3) := by decide +kernel
theorem dX5_get_19 : decode cX5_get 19 = .ok (.aload_n 0, 1) := by decide +kernel
theorem dX5_get_20 : decode cX5_get 20 = .ok (.iload_n 1, 1) := by decide +kernel
theorem dX5_get_21 : decode cX5_get 21 = .ok (.iload_n 2, 1) := by decide +kernel
theorem dX5_get_22 : decode cX5_get 22 = .ok (.iload_n 3, 1) := by decide +kernel
theorem dX5_get_23 : decode cX5_get 23 = .ok (.invokevirtual 80, 3) := by decide +kernel
theorem dX5_get_26 : decode cX5_get 26 = .ok (.ifCond .eq 6, 3) := by decide +kernel
theorem dX5_get_29 : decode cX5_get 29 = .ok (.ldc 88, 2) := by decide +kernel
theorem dX5_get_31 : decode cX5_get 31 = .ok (.ireturn, 1) := by decide +kernel
theorem dX5_get_32 : decode cX5_get 32 = .ok (.aload_n 0, 1) := by decide +kernel
theorem dX5_get_33 : decode cX5_get 33 = .ok (.getfield 16, 3) := by decide +kernel
theorem dX5_get_36 : decode cX5_get 36 = .ok (.bipush 60, 2) := by decide +kernel
theorem dX5_get_38 : decode cX5_get 38 = .ok (.iload_n 1, 1) := by decide +kernel
theorem dX5_get_39 : decode cX5_get 39 = .ok (.imul, 1) := by decide +kernel
theorem dX5_get_40 : decode cX5_get 40 = .ok (.iload_n 3, 1) := by decide +kernel
theorem dX5_get_41 : decode cX5_get 41 = .ok (.iadd, 1) := by decide +kernel
theorem dX5_get_42 : decode cX5_get 42 = .ok (.iaload, 1) := by decide +kernel
theorem dX5_get_43 : decode cX5_get 43 = .ok (.ireturn, 1) := by decide +kernel
theorem dX5_copy_0 : decode cX5_copy 0 = .ok (.iload_n 1, 1) := by decide +kernel
theorem dX5_copy_1 : decode cX5_copy 1 = .ok (.invokestatic 70, 3) := by decide +kernel
theorem dX5_copy_4 : decode cX5_copy 4 = .ok (.ifCond .eq 10, 3) := by decide +kernel
theorem dX5_copy_7 : decode cX5_copy 7 = .ok (.iload_n 3, 1) := by decide +kernel
theorem dX5_copy_8 : decode cX5_copy 8 = .ok (.invokestatic 70, 3) := by decide +kernel
theorem dX5_copy_11 : decode cX5_copy 11 = .ok (.ifCond .ne 6, 3) := by decide +kernel
theorem dX5_copy_14 : decode cX5_copy 14 = .ok (.bipush (-2), 2) := by decide +kernel
theorem dX5_copy_16 : decode cX5_copy 16 = .ok (.ireturn, 1) := by decide +kernel
theorem dX5_copy_17 : decode cX5_copy 17 = .ok (.aload_n 0, 1) := by decide +kernel
theorem dX5_copy_18 : decode cX5_copy 18 = .ok (.getfield 7, 3) := by decide +kernel
theorem dX5_copy_21 : decode cX5_copy 21 = .ok (.iload_n 1, 1) := by decide +kernel
theorem dX5_copy_22 : decode cX5_copy 22 = .ok (.iaload, 1) := by decide +kernel
theorem dX5_copy_23 : decode cX5_copy 23 = .ok (.ifCond .lt 12, 3) := by decide +kernel
theorem dX5_copy_26 : decode cX5_copy 26 = .ok (.aload_n 0, 1) := by decide +kernel
theorem dX5_copy_27 : decode cX5_copy 27 = .ok (.getfield 7, 3) := by decide +kernel
theorem dX5_copy_30 : decode cX5_copy 30 = .ok (.iload_n 3, 1) := by decide +kernel
theorem dX5_copy_31 : decode cX5_copy 31 = .ok (.iaload, 1) := by decide +kernel
theorem dX5_copy_32 : decode cX5_copy 32 = .ok (.ifCond .ge 9, 3) := by decide +kernel
theorem dX5_copy_35 : decode cX5_copy 35 = .ok (.aload_n 0, 1) := by decide +kernel
theorem dX5_copy_36 : decode cX5_copy 36 = .ok (.iconst 1, 1) := by decide +kernel
theorem dX5_copy_37 : decode cX5_copy 37 = .ok (.invokevirtual 76, 3) := by decide +kernel
theorem dX5_copy_40 : decode cX5_copy 40 = .ok (.ireturn, 1) := by decide +kernel
theorem dX5_copy_41 : decode cX5_copy 41 = .ok (.aload_n 0, 1) := by decide +kernel
theorem dX5_copy_42 : decode cX5_copy 42 = .ok (.getfield 7, 3) := by decide +kernel
theorem dX5_copy_45 : decode cX5_copy 45 = .ok (.iload_n 1, 1) := by decide +kernel
theorem dX5_copy_46 : decode cX5_copy 46 = .ok (.iaload, 1) := by decide +kernel
theorem dX5_copy_47 : decode cX5_copy 47 = .ok (.aload_n 0, 1) := by decide +kernel
theorem dX5_copy_48 : decode cX5_copy 48 = .ok (.getfield 7, 3) := by decide +kernel
theorem dX5_copy_51 : decode cX5_copy 51 = .ok (.iload_n 3, 1) := by decide +kernel
theorem dX5_copy_52 : decode cX5_copy 52 = .ok (.iaload, 1) := by decide +kernel
theorem dX5_copy_53 : decode cX5_copy 53 = .ok (.if_icmp .eq 9, 3) := by decide +kernel
theorem dX5_copy_56 : decode cX5_copy 56 = .ok (.aload_n 0, 1) := by decide +kernel
theorem dX5_copy_57 : decode cX5_copy 57 = .ok (.iconst 4, 1) := by decide +kernel
theorem dX5_copy_58 : decode cX5_copy 58 = .ok (.invokevirtual 76, 3) := by decide +kernel
theorem dX5_copy_61 : decode cX5_copy 61 = .ok (.ireturn, 1) := by decide +kernel
theorem dX5_copy_62 : decode cX5_copy 62 = .ok (.iload_n 2, 1) := by decide +kernel
theorem dX5_copy_63 : decode cX5_copy 63 = .ok (.ifCond .lt 48, 3) := by decide +kernel
theorem dX5_copy_66 : decode cX5_copy 66 = .ok (.iload 4, 2) := by decide +kernel
theorem dX5_copy_68 : decode cX5_copy 68 = .ok (.ifCond .lt 43, 3) := by decide +kernel
theorem dX5_copy_71 : decode cX5_copy 71 = .ok (.iload 5, 2) := by decide +kernel
theorem dX5_copy_73 : decode cX5_copy 73 = .ok (.ifCond .lt 38, 3) := by decide +kernel
theorem dX5_copy_76 : decode cX5_copy 76 = .ok (.iload_n 2, 1) := by decide +kernel
theorem dX5_copy_77 : decode cX5_copy 77 = .ok (.i2l, 1) := by decide +kernel
theorem dX5_copy_78 : decode cX5_copy 78 = .ok (.iload 5, 2) := by decide +kernel
theorem dX5_copy_80 : decode cX5_copy 80 = .ok (.i2l, 1) := by decide +kernel
theorem dX5_copy_81 : decode cX5_copy 81 = .ok (.ladd, 1) := by decide +kernel
theorem dX5_copy_82 : decode cX5_copy 82 = .ok (.aload_n 0, 1) := by decide +kernel
theorem dX5_copy_83 : decode cX5_copy 83 = .ok (.getfield 13, 3) := by decide +kernel
theorem dX5_copy_86 : decode cX5_copy 86 = .ok (.iload_n 1, 1) := by decide +kernel
theorem dX5_copy_87 : decode cX5_copy 87 = .ok (.iaload, 1) := by decide +kernel
theorem dX5_copy_88 : decode cX5_copy 88 = .ok (.i2l, 1) := by decide +kernel
theorem dX5_copy_89 : decode cX5_copy 89 = .ok (.lcmp, 1) := by decide +kernel
theorem dX5_copy_90 : decode cX5_copy 90 = .ok (.ifCond .gt 21, 3) := by decide +kernel
theorem dX5_copy_93 : decode cX5_copy 93 = .ok (.iload 4, 2) := by decide +kernel
theorem dX5_copy_95 : decode cX5_copy 95 = .ok (.i2l, 1) := by decide +kernel
theorem dX5_copy_96 : decode cX5_copy 96 = .ok (.iload 5, 2) := by decide +kernel
theorem dX5_copy_98 : decode cX5_copy 98 = .ok (.i2l, 1) := by decide +kernel
theorem dX5_copy_99 : decode cX5_copy 99 = .ok (.ladd, 1) := by decide +kernel
theorem dX5_copy_100 : decode cX5_copy 100 = .ok (.aload_n 0, 1) := by decide +kernel
theorem dX5_copy_101 : decode cX5_copy 101 = .ok (.getfield 13, 3) := by decide +kernel
theorem dX5_copy_104 : decode cX5_copy 104 = .ok (.iload_n 3, 1) := by decide +kernel
theorem dX5_copy_105 : decode cX5_copy 105 = .ok (.iaload, 1) := by decide +kernel
theorem dX5_copy_106 : decode cX5_copy 106 = .ok (.i2l, 1) := by decide +kernel
theorem dX5_copy_107 : decode cX5_copy 107 = .ok (.lcmp, 1) := by decide +kernel
theorem dX5_copy_108 : decode cX5_copy 108 = .ok (.ifCond .le 9, 3) := by decide +kernel
theorem dX5_copy_111 : decode cX5_copy 111 = .ok (.aload_n 0, 1) := by decide +kernel
theorem dX5_copy_112 : decode cX5_copy 112 = .ok (.iconst 2, 1) := by decide +kernel
theorem dX5_copy_113 : decode cX5_copy 113 = .ok (.invokevirtual 76, 3) := by decide +kernel
theorem dX5_copy_116 : decode cX5_copy 116 = .ok (.ireturn, 1) := by decide +kernel
theorem dX5_copy_117 : decode cX5_copy 117 = .ok (.iconst 0, 1) := by decide +kernel
theorem dX5_copy_118 : decode cX5_copy 118 = .ok (.istore 6, 2) := by decide +kernel
theorem dX5_copy_120 : decode cX5_copy 120 = .ok (.iload 6, 2) := by decide +kernel
theorem dX5_copy_122 : decode cX5_copy 122 = .ok (.iload 5, 2) := by decide +kernel
theorem dX5_copy_124 : decode cX5_copy 124 = .ok (.if_icmp .ge 30, 3) := by decide +kernel
theorem dX5_copy_127 : decode cX5_copy 127 = .ok (.aload_n 0, 1) := by decide +kernel
theorem dX5_copy_128 : decode cX5_copy 128 = .ok (.getfield 19, 3) := by decide +kernel
theorem dX5_copy_131 : decode cX5_copy 131 = .ok (.iload 6, 2) := by decide +kernel
theorem dX5_copy_133 : decode cX5_copy 133 = .ok (.aload_n 0, 1) := by decide +kernel
theorem dX5_copy_134 : decode cX5_copy 134 = .ok (.getfield 16, 3) := by decide +kernel
theorem dX5_copy_137 : decode cX5_copy 137 = .ok (.bipush 60, 2) := by decide +kernel
theorem dX5_copy_139 : decode cX5_copy 139 = .ok (.iload_n 1, 1) := by decide +kernel
theorem dX5_copy_140 : decode cX5_copy 140 = .ok (.imul, 1) := by decide +kernel
theorem dX5_copy_141 : decode cX5_copy 141 = .ok (.iload_n 2, 1) := by decide +kernel
theorem dX5_copy_142 : decode cX5_copy 142 = .ok (.iadd, 1) := by decide +kernel
theorem dX5_copy_143 : decode cX5_copy 143 = .ok (.iload 6, 2) := by decide +kernel
theorem dX5_copy_145 : decode cX5_copy 145 = .ok (.iadd, 1) := by decide +kernel
theorem dX5_copy_146 : decode cX5_copy 146 = .ok (.iaload, 1) := by decide +kernel
theorem dX5_copy_147 : decode cX5_copy 147 = .ok (.iastore, 1) := by decide +kernel
theorem dX5_copy_148 : decode cX5_copy 148 = .ok (.iinc 6 1, 3) := by decide +kernel
theorem dX5_copy_151 : decode cX5_copy 151 = .ok (.goto (-31), 3) := by decide +kernel
theorem dX5_copy_154 : decode cX5_copy 154 = .ok (.iconst 0, 1) := by decide +kernel
theorem dX5_copy_155 : decode cX5_copy 155 = .ok (.istore 6, 2) := by decide +kernel
theorem dX5_copy_157 : decode cX5_copy 157 = .ok (.iload 6, 2) := by decide +kernel
theorem dX5_copy_159 : decode cX5_copy 159 = .ok (.iload 5, 2) := by decide +kernel
theorem dX5_copy_161 : decode cX5_copy 161 = .ok (.if_icmp .ge 31, 3) := by decide +kernel
theorem dX5_copy_164 : decode cX5_copy 164 = .ok (.aload_n 0, 1) := by decide +kernel
theorem dX5_copy_165 : decode cX5_copy 165 = .ok (.getfield 16, 3) := by decide +kernel
theorem dX5_copy_168 : decode cX5_copy 168 = .ok (.bipush 60, 2) := by decide +kernel
theorem dX5_copy_170 : decode cX5_copy 170 = .ok (.iload_n 3, 1) := by decide +kernel
theorem dX5_copy_171 : decode cX5_copy 171 = .ok (.imul, 1) := by decide +kernel
theorem dX5_copy_172 : decode cX5_copy 172 = .ok (.iload 4, 2) := by decide +kernel
theorem dX5_copy_174 : decode cX5_copy 174 = .ok (.iadd, 1) := by decide +kernel
theorem dX5_copy_175 : decode cX5_copy 175 = .ok (.iload 6, 2) := by decide +kernel
theorem dX5_copy_177 : decode cX5_copy 177 = .ok (.iadd, 1) := by decide +kernel
theorem dX5_copy_178 : decode cX5_copy 178 = .ok (.aload_n 0, 1) := by decide +kernel
theorem dX5_copy_179 : decode cX5_copy 179 = .ok (.getfield 19, 3) := by decide +kernel
theorem dX5_copy_182 : decode cX5_copy 182 = .ok (.iload 6, 2) := by decide +kernel
theorem dX5_copy_184 : decode cX5_copy 184 = .ok (.iaload, 1) := by decide +kernel
theorem dX5_copy_185 : decode cX5_copy 185 = .ok (.iastore, 1) := by decide +kernel
theorem dX5_copy_186 : decode cX5_copy 186 = .ok (.iinc 6 1, 3) := by decide +kernel
theorem dX5_copy_189 : decode cX5_copy 189 = .ok (.goto (-32), 3) := by decide +kernel
theorem dX5_copy_192 : decode cX5_copy 192 = .ok (.iconst 1, 1) := by decide +kernel
theorem dX5_copy_193 : decode cX5_copy 193 = .ok (.ireturn, 1) := by decide +kernel
theorem dX5_type_0 : decode cX5_type 0 = .ok (.iload_n 1, 1) := by decide +kernel
theorem dX5_type_1 : decode cX5_type 1 = .ok (.invokestatic 89, 3) := by decide +kernel
theorem dX5_type_4 : decode cX5_type 4 = .ok (.ifCond .eq 15, 3) := by decide +kernel
theorem dX5_type_7 : decode cX5_type 7 = .ok (.iload_n 2, 1) := by decide +kernel
theorem dX5_type_8 : decode cX5_type 8 = .ok (.i2l, 1) := by decide +kernel
theorem dX5_type_9 : decode cX5_type 9 = .ok (.lconst 0, 1) := by decide +kernel
theorem dX5_type_10 : decode cX5_type 10 = .ok (.ldc2_w 92, 3) := by decide +kernel
theorem dX5_type_13 : decode cX5_type 13 = .ok (.invokestatic 61, 3) := by decide +kernel
theorem dX5_type_16 : decode cX5_type 16 = .ok (.ifCond .ne 6, 3) := by decide +kernel
theorem dX5_type_19 : decode cX5_type 19 = .ok (.bipush (-2), 2) := by decide +kernel
theorem dX5_type_21 : decode cX5_type 21 = .ok (.ireturn, 1) := by decide +kernel
theorem dX5_type_22 : decode cX5_type 22 = .ok (.aload_n 0, 1) := by decide +kernel
theorem dX5_type_23 : decode cX5_type 23 = .ok (.getfield 25, 3) := by decide +kernel
theorem dX5_type_26 : decode cX5_type 26 = .ok (.iload_n 1, 1) := by decide +kernel
theorem dX5_type_27 : decode cX5_type 27 = .ok (.iaload, 1) := by decide +kernel
theorem dX5_type_28 : decode cX5_type 28 = .ok (.iload_n 1, 1) := by decide +kernel
theorem dX5_type_29 : decode cX5_type 29 = .ok (.ifCond .ne 8, 3) := by decide +kernel
theorem dX5_type_32 : decode cX5_type 32 = .ok (.bipush 47, 2) := by decide +kernel
theorem dX5_type_34 : decode cX5_type 34 = .ok (.goto 5, 3) := by decide +kernel
theorem dX5_type_37 : decode cX5_type 37 = .ok (.bipush 59, 2) := by decide +kernel
theorem dX5_type_39 : decode cX5_type 39 = .ok (.if_icmp .ne 6, 3) := by decide +kernel
theorem dX5_type_42 : decode cX5_type 42 = .ok (.bipush (-4), 2) := by decide +kernel
theorem dX5_type_44 : decode cX5_type 44 = .ok (.ireturn, 1) := by decide +kernel
theorem dX5_type_45 : decode cX5_type 45 = .ok (.aload_n 0, 1) := by decide +kernel
theorem dX5_type_46 : decode cX5_type 46 = .ok (.getfield 22, 3) := by decide +kernel
theorem dX5_type_49 : decode cX5_type 49 = .ok (.bipush 60, 2) := by decide +kernel
theorem dX5_type_51 : decode cX5_type 51 = .ok (.iload_n 1, 1) := by decide +kernel
theorem dX5_type_52 : decode cX5_type 52 = .ok (.imul, 1) := by decide +kernel
theorem dX5_type_53 : decode cX5_type 53 = .ok (.aload_n 0, 1) := by decide +kernel
theorem dX5_type_54 : decode cX5_type 54 = .ok (.getfield 25, 3) := by decide +kernel
theorem dX5_type_57 : decode cX5_type 57 = .ok (.iload_n 1, 1) := by decide +kernel
theorem dX5_type_58 : decode cX5_type 58 = .ok (.iaload, 1) := by decide +kernel
theorem dX5_type_59 : decode cX5_type 59 = .ok (.iadd, 1) := by decide +kernel
theorem dX5_type_60 : decode cX5_type 60 = .ok (.iload_n 2, 1) := by decide +kernel
theorem dX5_type_61 : decode cX5_type 61 = .ok (.iastore, 1) := by decide +kernel
theorem dX5_type_62 : decode cX5_type 62 = .ok (.aload_n 0, 1) := by decide +kernel
theorem dX5_type_63 : decode cX5_type 63 = .ok (.getfield 25, 3) := by decide +kernel
theorem dX5_type_66 : decode cX5_type 66 = .ok (.iload_n 1, 1) := by decide +kernel
theorem dX5_type_67 : decode cX5_type 67 = .ok (.dup2, 1) := by decide +kernel
theorem dX5_type_68 : decode cX5_type 68 = .ok (.iaload, 1) := by decide +kernel
theorem dX5_type_69 : decode cX5_type 69 = .ok (.iconst 1, 1) := by decide +kernel
theorem dX5_type_70 : decode cX5_type 70 = .ok (.iadd, 1) := by decide +kernel
theorem dX5_type_71 : decode cX5_type 71 = .ok (.iastore, 1) := by decide +kernel
theorem dX5_type_72 : decode cX5_type 72 = .ok (.aload_n 0, 1) := by decide +kernel
theorem dX5_type_73 : decode cX5_type 73 = .ok (.getfield 25, 3) := by decide +kernel
theorem dX5_type_76 : decode cX5_type 76 = .ok (.iload_n 1, 1) := by decide +kernel
theorem dX5_type_77 : decode cX5_type 77 = .ok (.iaload, 1) := by decide +kernel
theorem dX5_type_78 : decode cX5_type 78 = .ok (.ireturn, 1) := by decide +kernel
theorem dX5_wipe_0 : decode cX5_wipe 0 = .ok (.iload_n 1, 1) := by decide +kernel
theorem dX5_wipe_1 : decode cX5_wipe 1 = .ok (.invokestatic 89, 3) := by decide +kernel
theorem dX5_wipe_4 : decode cX5_wipe 4 = .ok (.ifCond .ne 6, 3) := by decide +kernel
theorem dX5_wipe_7 : decode cX5_wipe 7 = .ok (.bipush (-2), 2) := by decide +kernel
theorem dX5_wipe_9 : decode cX5_wipe 9 = .ok (.ireturn, 1) := by decide +kernel
theorem dX5_wipe_10 : decode cX5_wipe 10 = .ok (.aload_n 0, 1) := by decide +kernel
theorem dX5_wipe_11 : decode cX5_wipe 11 = .ok (.getfield 25, 3) := by decide +kernel
theorem dX5_wipe_14 : decode cX5_wipe 14 = .ok (.iload_n 1, 1) := by decide +kernel
theorem dX5_wipe_15 : decode cX5_wipe 15 = .ok (.iaload, 1) := by decide +kernel
theorem dX5_wipe_16 : decode cX5_wipe 16 = .ok (.istore_n 2, 1) := by decide +kernel
theorem dX5_wipe_17 : decode cX5_wipe 17 = .ok (.aload_n 0, 1) := by decide +kernel
theorem dX5_wipe_18 : decode cX5_wipe 18 = .ok (.getfield 25, 3) := by decide +kernel
theorem dX5_wipe_21 : decode cX5_wipe 21 = .ok (.iload_n 1, 1) := by decide +kernel
theorem dX5_wipe_22 : decode cX5_wipe 22 = .ok (.iconst 0, 1) := by decide +kernel
theorem dX5_wipe_23 : decode cX5_wipe 23 = .ok (.iastore, 1) := by decide +kernel
theorem dX5_wipe_24 : decode cX5_wipe 24 = .ok (.iload_n 2, 1) := by decide +kernel
theorem dX5_wipe_25 : decode cX5_wipe 25 = .ok (.ireturn, 1) := by decide +kernel
theorem dX5_undo_0 : decode cX5_undo 0 = .ok (.iload_n 1, 1) := by decide +kernel
theorem dX5_undo_1 : decode cX5_undo 1 = .ok (.invokestatic 89, 3) := by decide +kernel
theorem dX5_undo_4 : decode cX5_undo 4 = .ok (.ifCond .ne 6, 3) := by decide +kernel
theorem dX5_undo_7 : decode cX5_undo 7 = .ok (.bipush (-2), 2) := by decide +kernel
theorem dX5_undo_9 : decode cX5_undo 9 = .ok (.ireturn, 1) := by decide +kernel
theorem dX5_undo_10 : decode cX5_undo 10 = .ok (.aload_n 0, 1) := by decide +kernel
theorem dX5_undo_11 : decode cX5_undo 11 = .ok (.getfield 25, 3) := by decide +kernel
theorem dX5_undo_14 : decode cX5_undo 14 = .ok (.iload_n 1, 1) := by decide +kernel
theorem dX5_undo_15 : decode cX5_undo 15 = .ok (.iaload, 1) := by decide +kernel
theorem dX5_undo_16 : decode cX5_undo 16 = .ok (.ifCond .ne 6, 3) := by decide +kernel
theorem dX5_undo_19 : decode cX5_undo 19 = .ok (.bipush (-3), 2) := by decide +kernel
theorem dX5_undo_21 : decode cX5_undo 21 = .ok (.ireturn, 1) := by decide +kernel
theorem dX5_undo_22 : decode cX5_undo 22 = .ok (.aload_n 0, 1) := by decide +kernel
theorem dX5_undo_23 : decode cX5_undo 23 = .ok (.getfield 25, 3) := by decide +kernel
theorem dX5_undo_26 : decode cX5_undo 26 = .ok (.iload_n 1, 1) := by decide +kernel
theorem dX5_undo_27 : decode cX5_undo 27 = .ok (.dup2, 1) := by decide +kernel
theorem dX5_undo_28 : decode cX5_undo 28 = .ok (.iaload, 1) := by decide +kernel
theorem dX5_undo_29 : decode cX5_undo 29 = .ok (.iconst 1, 1) := by decide +kernel
theorem dX5_undo_30 : decode cX5_undo 30 = .ok (.isub, 1) := by decide +kernel
theorem dX5_undo_31 : decode cX5_undo 31 = .ok (.iastore, 1) := by decide +kernel
theorem dX5_undo_32 : decode cX5_undo 32 = .ok (.aload_n 0, 1) := by decide +kernel
theorem dX5_undo_33 : decode cX5_undo 33 = .ok (.getfield 25, 3) := by decide +kernel
theorem dX5_undo_36 : decode cX5_undo 36 = .ok (.iload_n 1, 1) := by decide +kernel
theorem dX5_undo_37 : decode cX5_undo 37 = .ok (.iaload, 1) := by decide +kernel
theorem dX5_undo_38 : decode cX5_undo 38 = .ok (.ireturn, 1) := by decide +kernel
theorem dX5_shapeOf_0 : decode cX5_shapeOf 0 = .ok (.iload_n 0, 1) := by decide +kernel
theorem dX5_shapeOf_1 : decode cX5_shapeOf 1 = .ok (.bipush 115, 2) := by decide +kernel
theorem dX5_shapeOf_3 : decode cX5_shapeOf 3 = .ok (.if_icmp .ne 7, 3) := by decide +kernel
theorem dX5_shapeOf_6 : decode cX5_shapeOf 6 = .ok (.iconst 0, 1) := by decide +kernel
theorem dX5_shapeOf_7 : decode cX5_shapeOf 7 = .ok (.goto 24, 3) := by decide +kernel
theorem dX5_shapeOf_10 : decode cX5_shapeOf 10 = .ok (.iload_n 0, 1) := by decide +kernel
theorem dX5_shapeOf_11 : decode cX5_shapeOf 11 = .ok (.bipush 100, 2) := by decide +kernel
theorem dX5_shapeOf_13 : decode cX5_shapeOf 13 = .ok (.if_icmp .ne 7, 3) := by decide +kernel
theorem dX5_shapeOf_16 : decode cX5_shapeOf 16 = .ok (.iconst 1, 1) := by decide +kernel
theorem dX5_shapeOf_17 : decode cX5_shapeOf 17 = .ok (.goto 14, 3) := by decide +kernel
theorem dX5_shapeOf_20 : decode cX5_shapeOf 20 = .ok (.iload_n 0, 1) := by decide +kernel
theorem dX5_shapeOf_21 : decode cX5_shapeOf 21 = .ok (.bipush 114, 2) := by decide +kernel
theorem dX5_shapeOf_23 : decode cX5_shapeOf 23 = .ok (.if_icmp .ne 7, 3) := by decide +kernel
theorem dX5_shapeOf_26 : decode cX5_shapeOf 26 = .ok (.iconst 2, 1) := by decide +kernel
theorem dX5_shapeOf_27 : decode cX5_shapeOf 27 = .ok (.goto 4, 3) := by decide +kernel
theorem dX5_shapeOf_30 : decode cX5_shapeOf 30 = .ok (.iconst (-1), 1) := by decide +kernel
theorem dX5_shapeOf_31 : decode cX5_shapeOf 31 = .ok (.ireturn, 1) := by decide +kernel
theorem dX5_lieOf_0 : decode cX5_lieOf 0 = .ok (.iload_n 0, 1) := by decide +kernel
theorem dX5_lieOf_1 : decode cX5_lieOf 1 = .ok (.bipush 110, 2) := by decide +kernel
theorem dX5_lieOf_3 : decode cX5_lieOf 3 = .ok (.if_icmp .ne 7, 3) := by decide +kernel
theorem dX5_lieOf_6 : decode cX5_lieOf 6 = .ok (.iconst 0, 1) := by decide +kernel
theorem dX5_lieOf_7 : decode cX5_lieOf 7 = .ok (.goto 34, 3) := by decide +kernel
theorem dX5_lieOf_10 : decode cX5_lieOf 10 = .ok (.iload_n 0, 1) := by decide +kernel
theorem dX5_lieOf_11 : decode cX5_lieOf 11 = .ok (.bipush 111, 2) := by decide +kernel
theorem dX5_lieOf_13 : decode cX5_lieOf 13 = .ok (.if_icmp .ne 7, 3) := by decide +kernel
theorem dX5_lieOf_16 : decode cX5_lieOf 16 = .ok (.iconst 1, 1) := by decide +kernel
theorem dX5_lieOf_17 : decode cX5_lieOf 17 = .ok (.goto 24, 3) := by decide +kernel
theorem dX5_lieOf_20 : decode cX5_lieOf 20 = .ok (.iload_n 0, 1) := by decide +kernel
theorem dX5_lieOf_21 : decode cX5_lieOf 21 = .ok (.bipush 102, 2) := by decide +kernel
theorem dX5_lieOf_23 : decode cX5_lieOf 23 = .ok (.if_icmp .ne 7, 3) := by decide +kernel
theorem dX5_lieOf_26 : decode cX5_lieOf 26 = .ok (.iconst 2, 1) := by decide +kernel
theorem dX5_lieOf_27 : decode cX5_lieOf 27 = .ok (.goto 14, 3) := by decide +kernel
theorem dX5_lieOf_30 : decode cX5_lieOf 30 = .ok (.iload_n 0, 1) := by decide +kernel
theorem dX5_lieOf_31 : decode cX5_lieOf 31 = .ok (.bipush 98, 2) := by decide +kernel
theorem dX5_lieOf_33 : decode cX5_lieOf 33 = .ok (.if_icmp .ne 7, 3) := by decide +kernel
theorem dX5_lieOf_36 : decode cX5_lieOf 36 = .ok (.iconst 3, 1) := by decide +kernel
theorem dX5_lieOf_37 : decode cX5_lieOf 37 = .ok (.goto 4, 3) := by decide +kernel
theorem dX5_lieOf_40 : decode cX5_lieOf 40 = .ok (.iconst (-1), 1) := by decide +kernel
theorem dX5_lieOf_41 : decode cX5_lieOf 41 = .ok (.ireturn, 1) := by decide +kernel
theorem dX5_within_0 : decode cX5_within 0 = .ok (.iload_n 0, 1) := by decide +kernel
theorem dX5_within_1 : decode cX5_within 1 = .ok (.i2l, 1) := by decide +kernel
theorem dX5_within_2 : decode cX5_within 2 = .ok (.iload_n 1, 1) := by decide +kernel
theorem dX5_within_3 : decode cX5_within 3 = .ok (.i2l, 1) := by decide +kernel
theorem dX5_within_4 : decode cX5_within 4 = .ok (.iload_n 2, 1) := by decide +kernel
theorem dX5_within_5 : decode cX5_within 5 = .ok (.i2l, 1) := by decide +kernel
theorem dX5_within_6 : decode cX5_within 6 = .ok (.invokestatic 61, 3) := by decide +kernel
theorem dX5_within_9 : decode cX5_within 9 = .ok (.ifCond .eq 9, 3) := by decide +kernel
theorem dX5_within_12 : decode cX5_within 12 = .ok (.iload_n 0, 1) := by decide +kernel
theorem dX5_within_13 : decode cX5_within 13 = .ok (.iload_n 1, 1) := by decide +kernel
theorem dX5_within_14 : decode cX5_within 14 = .ok (.isub, 1) := by decide +kernel
theorem dX5_within_15 : decode cX5_within 15 = .ok (.goto 4, 3) := by decide +kernel
theorem dX5_within_18 : decode cX5_within 18 = .ok (.iconst (-1), 1) := by decide +kernel
theorem dX5_within_19 : decode cX5_within 19 = .ok (.ireturn, 1) := by decide +kernel
theorem dX5_tellsOf_0 : decode cX5_tellsOf 0 = .ok (.iload_n 0, 1) := by decide +kernel
theorem dX5_tellsOf_1 : decode cX5_tellsOf 1 = .ok (.ifCond .ne 39, 3) := by decide +kernel
theorem dX5_tellsOf_4 : decode cX5_tellsOf 4 = .ok (.iload_n 1, 1) := by decide +kernel
theorem dX5_tellsOf_5 : decode cX5_tellsOf 5 = .ok (.ifCond .ne 14, 3) := by decide +kernel
theorem dX5_tellsOf_8 : decode cX5_tellsOf 8 = .ok (.iload_n 2, 1) := by decide +kernel
theorem dX5_tellsOf_9 : decode cX5_tellsOf 9 = .ok (.bipush 97, 2) := by decide +kernel
theorem dX5_tellsOf_11 : decode cX5_tellsOf 11 = .ok (.bipush 102, 2) := by decide +kernel
theorem dX5_tellsOf_13 : decode cX5_tellsOf 13 = .ok (.invokestatic 94, 3) := by decide +kernel
theorem dX5_tellsOf_16 : decode cX5_tellsOf 16 = .ok (.goto 23, 3) := by decide +kernel
theorem dX5_tellsOf_19 : decode cX5_tellsOf 19 = .ok (.iload_n 1, 1) := by decide +kernel
theorem dX5_tellsOf_20 : decode cX5_tellsOf 20 = .ok (.iconst 1, 1) := by decide +kernel
theorem dX5_tellsOf_21 : decode cX5_tellsOf 21 = .ok (.if_icmp .ne 14, 3) := by decide +kernel
theorem dX5_tellsOf_24 : decode cX5_tellsOf 24 = .ok (.iload_n 2, 1) := by decide +kernel
theorem dX5_tellsOf_25 : decode cX5_tellsOf 25 = .ok (.bipush 49, 2) := by decide +kernel
theorem dX5_tellsOf_27 : decode cX5_tellsOf 27 = .ok (.bipush 54, 2) := by decide +kernel
theorem dX5_tellsOf_29 : decode cX5_tellsOf 29 = .ok (.invokestatic 94, 3) := by decide +kernel
theorem dX5_tellsOf_32 : decode cX5_tellsOf 32 = .ok (.goto 7, 3) := by decide +kernel
theorem dX5_tellsOf_35 : decode cX5_tellsOf 35 = .ok (.iload_n 2, 1) := by decide +kernel
theorem dX5_tellsOf_36 : decode cX5_tellsOf 36 = .ok (.invokestatic 97, 3) := by decide +kernel
theorem dX5_tellsOf_39 : decode cX5_tellsOf 39 = .ok (.ireturn, 1) := by decide +kernel
theorem dX5_tellsOf_40 : decode cX5_tellsOf 40 = .ok (.iload_n 1, 1) := by decide +kernel
theorem dX5_tellsOf_41 : decode cX5_tellsOf 41 = .ok (.tableswitch 63 0 3 #[31, 36, 31, 41], 31) := by decide +kernel
theorem dX5_tellsOf_72 : decode cX5_tellsOf 72 = .ok (.iload_n 2, 1) := by decide +kernel
theorem dX5_tellsOf_73 : decode cX5_tellsOf 73 = .ok (.invokestatic 97, 3) := by decide +kernel
theorem dX5_tellsOf_76 : decode cX5_tellsOf 76 = .ok (.ireturn, 1) := by decide +kernel
theorem dX5_tellsOf_77 : decode cX5_tellsOf 77 = .ok (.iload_n 2, 1) := by decide +kernel
theorem dX5_tellsOf_78 : decode cX5_tellsOf 78 = .ok (.invokestatic 100, 3) := by decide +kernel
theorem dX5_tellsOf_81 : decode cX5_tellsOf 81 = .ok (.ireturn, 1) := by decide +kernel
theorem dX5_tellsOf_82 : decode cX5_tellsOf 82 = .ok (.iload_n 2, 1) := by decide +kernel
theorem dX5_tellsOf_83 : decode cX5_tellsOf 83 = .ok (.bipush 43, 2) := by decide +kernel
theorem dX5_tellsOf_85 : decode cX5_tellsOf 85 = .ok (.if_icmp .ne 7, 3) := by decide +kernel
theorem dX5_tellsOf_88 : decode cX5_tellsOf 88 = .ok (.iconst 1, 1) := by decide +kernel
theorem dX5_tellsOf_89 : decode cX5_tellsOf 89 = .ok (.goto 14, 3) := by decide +kernel
theorem dX5_tellsOf_92 : decode cX5_tellsOf 92 = .ok (.iload_n 2, 1) := by decide +kernel
theorem dX5_tellsOf_93 : decode cX5_tellsOf 93 = .ok (.bipush 45, 2) := by decide +kernel
theorem dX5_tellsOf_95 : decode cX5_tellsOf 95 = .ok (.if_icmp .ne 7, 3) := by decide +kernel
theorem dX5_tellsOf_98 : decode cX5_tellsOf 98 = .ok (.iconst 0, 1) := by decide +kernel
theorem dX5_tellsOf_99 : decode cX5_tellsOf 99 = .ok (.goto 4, 3) := by decide +kernel
theorem dX5_tellsOf_102 : decode cX5_tellsOf 102 = .ok (.iconst (-1), 1) := by decide +kernel
theorem dX5_tellsOf_103 : decode cX5_tellsOf 103 = .ok (.ireturn, 1) := by decide +kernel
theorem dX5_tellsOf_104 : decode cX5_tellsOf 104 = .ok (.iload_n 2, 1) := by decide +kernel
theorem dX5_tellsOf_105 : decode cX5_tellsOf 105 = .ok (.bipush 65, 2) := by decide +kernel
theorem dX5_tellsOf_107 : decode cX5_tellsOf 107 = .ok (.bipush 72, 2) := by decide +kernel
theorem dX5_tellsOf_109 : decode cX5_tellsOf 109 = .ok (.invokestatic 94, 3) := by decide +kernel
theorem dX5_tellsOf_112 : decode cX5_tellsOf 112 = .ok (.ireturn, 1) := by decide +kernel
theorem dX5_readsThing_0 : decode cX5_readsThing 0 = .ok (.iload_n 1, 1) := by decide +kernel
theorem dX5_readsThing_1 : decode cX5_readsThing 1 = .ok (.ifCond .ne 7, 3) := by decide +kernel
theorem dX5_readsThing_4 : decode cX5_readsThing 4 = .ok (.iconst 3, 1) := by decide +kernel
theorem dX5_readsThing_5 : decode cX5_readsThing 5 = .ok (.goto 4, 3) := by decide +kernel
theorem dX5_readsThing_8 : decode cX5_readsThing 8 = .ok (.iconst 5, 1) := by decide +kernel
theorem dX5_readsThing_9 : decode cX5_readsThing 9 = .ok (.istore_n 2, 1) := by decide +kernel
theorem dX5_readsThing_10 : decode cX5_readsThing 10 = .ok (.iload_n 1, 1) := by decide +kernel
theorem dX5_readsThing_11 : decode cX5_readsThing 11 = .ok (.ifCond .ne 15, 3) := by decide +kernel
theorem dX5_readsThing_14 : decode cX5_readsThing 14 = .ok (.aload_n 0, 1) := by decide +kernel
theorem dX5_readsThing_15 : decode cX5_readsThing 15 = .ok (.getfield 103, 3) := by decide +kernel
theorem dX5_readsThing_18 : decode cX5_readsThing 18 = .ok (.bipush 12, 2) := by decide +kernel
theorem dX5_readsThing_20 : decode cX5_readsThing 20 = .ok (.if_icmp .ne 17, 3) := by decide +kernel
theorem dX5_readsThing_23 : decode cX5_readsThing 23 = .ok (.goto 12, 3) := by decide +kernel
theorem dX5_readsThing_26 : decode cX5_readsThing 26 = .ok (.aload_n 0, 1) := by decide +kernel
theorem dX5_readsThing_27 : decode cX5_readsThing 27 = .ok (.getfield 106, 3) := by decide +kernel
theorem dX5_readsThing_30 : decode cX5_readsThing 30 = .ok (.bipush 10, 2) := by decide +kernel
theorem dX5_readsThing_32 : decode cX5_readsThing 32 = .ok (.if_icmp .ne 5, 3) := by decide +kernel
theorem dX5_readsThing_35 : decode cX5_readsThing 35 = .ok (.iconst 0, 1) := by decide +kernel
theorem dX5_readsThing_36 : decode cX5_readsThing 36 = .ok (.ireturn, 1) := by decide +kernel
theorem dX5_readsThing_37 : decode cX5_readsThing 37 = .ok (.iconst 0, 1) := by decide +kernel
theorem dX5_readsThing_38 : decode cX5_readsThing 38 = .ok (.istore_n 3, 1) := by decide +kernel
theorem dX5_readsThing_39 : decode cX5_readsThing 39 = .ok (.iload_n 3, 1) := by decide +kernel
theorem dX5_readsThing_40 : decode cX5_readsThing 40 = .ok (.iload_n 2, 1) := by decide +kernel
theorem dX5_readsThing_41 : decode cX5_readsThing 41 = .ok (.if_icmp .ge 102, 3) := by decide +kernel
theorem dX5_readsThing_44 : decode cX5_readsThing 44 = .ok (.aload_n 0, 1) := by decide +kernel
theorem dX5_readsThing_45 : decode cX5_readsThing 45 = .ok (.getfield 109, 3) := by decide +kernel
theorem dX5_readsThing_48 : decode cX5_readsThing 48 = .ok (.aload_n 0, 1) := by decide +kernel
theorem dX5_readsThing_49 : decode cX5_readsThing 49 = .ok (.getfield 25, 3) := by decide +kernel
theorem dX5_readsThing_52 : decode cX5_readsThing 52 = .ok (.iload_n 1, 1) := by decide +kernel
theorem dX5_readsThing_53 : decode cX5_readsThing 53 = .ok (.iaload, 1) := by decide +kernel
theorem dX5_readsThing_54 : decode cX5_readsThing 54 = .ok (.if_icmp .ge 25, 3) := by decide +kernel
theorem dX5_readsThing_57 : decode cX5_readsThing 57 = .ok (.iload_n 1, 1) := by decide +kernel
theorem dX5_readsThing_58 : decode cX5_readsThing 58 = .ok (.iload_n 3, 1) := by decide +kernel
theorem dX5_readsThing_59 : decode cX5_readsThing 59 = .ok (.aload_n 0, 1) := by decide +kernel
theorem dX5_readsThing_60 : decode cX5_readsThing 60 = .ok (.getfield 22, 3) := by decide +kernel
theorem dX5_readsThing_63 : decode cX5_readsThing 63 = .ok (.bipush 60, 2) := by decide +kernel
theorem dX5_readsThing_65 : decode cX5_readsThing 65 = .ok (.iload_n 1, 1) := by decide +kernel
theorem dX5_readsThing_66 : decode cX5_readsThing 66 = .ok (.imul, 1) := by decide +kernel
theorem dX5_readsThing_67 : decode cX5_readsThing 67 = .ok (.aload_n 0, 1) := by decide +kernel
theorem dX5_readsThing_68 : decode cX5_readsThing 68 = .ok (.getfield 109, 3) := by decide +kernel
theorem dX5_readsThing_71 : decode cX5_readsThing 71 = .ok (.iadd, 1) := by decide +kernel
theorem dX5_readsThing_72 : decode cX5_readsThing 72 = .ok (.iaload, 1) := by decide +kernel
theorem dX5_readsThing_73 : decode cX5_readsThing 73 = .ok (.invokestatic 112, 3) := by decide +kernel
theorem dX5_readsThing_76 : decode cX5_readsThing 76 = .ok (.goto 4, 3) := by decide +kernel
theorem dX5_readsThing_79 : decode cX5_readsThing 79 = .ok (.iconst (-1), 1) := by decide +kernel
theorem dX5_readsThing_80 : decode cX5_readsThing 80 = .ok (.istore 4, 2) := by decide +kernel
theorem dX5_readsThing_82 : decode cX5_readsThing 82 = .ok (.iload 4, 2) := by decide +kernel
theorem dX5_readsThing_84 : decode cX5_readsThing 84 = .ok (.iconst (-1), 1) := by decide +kernel
theorem dX5_readsThing_85 : decode cX5_readsThing 85 = .ok (.if_icmp .ne 5, 3) := by decide +kernel
theorem dX5_readsThing_88 : decode cX5_readsThing 88 = .ok (.iconst 0, 1) := by decide +kernel
theorem dX5_readsThing_89 : decode cX5_readsThing 89 = .ok (.ireturn, 1) := by decide +kernel
theorem dX5_readsThing_90 : decode cX5_readsThing 90 = .ok (.iload_n 1, 1) := by decide +kernel
theorem dX5_readsThing_91 : decode cX5_readsThing 91 = .ok (.ifCond .ne 21, 3) := by decide +kernel
theorem dX5_readsThing_94 : decode cX5_readsThing 94 = .ok (.aload_n 0, 1) := by decide +kernel
theorem dX5_readsThing_95 : decode cX5_readsThing 95 = .ok (.getfield 28, 3) := by decide +kernel
theorem dX5_readsThing_98 : decode cX5_readsThing 98 = .ok (.iconst 3, 1) := by decide +kernel
theorem dX5_readsThing_99 : decode cX5_readsThing 99 = .ok (.aload_n 0, 1) := by decide +kernel
theorem dX5_readsThing_100 : decode cX5_readsThing 100 = .ok (.getfield 103, 3) := by decide +kernel
theorem dX5_readsThing_103 : decode cX5_readsThing 103 = .ok (.imul, 1) := by decide +kernel
theorem dX5_readsThing_104 : decode cX5_readsThing 104 = .ok (.iload_n 3, 1) := by decide +kernel
theorem dX5_readsThing_105 : decode cX5_readsThing 105 = .ok (.iadd, 1) := by decide +kernel
theorem dX5_readsThing_106 : decode cX5_readsThing 106 = .ok (.iload 4, 2) := by decide +kernel
theorem dX5_readsThing_108 : decode cX5_readsThing 108 = .ok (.iastore, 1) := by decide +kernel
theorem dX5_readsThing_109 : decode cX5_readsThing 109 = .ok (.goto 18, 3) := by decide +kernel
theorem dX5_readsThing_112 : decode cX5_readsThing 112 = .ok (.aload_n 0, 1) := by decide +kernel
theorem dX5_readsThing_113 : decode cX5_readsThing 113 = .ok (.getfield 31, 3) := by decide +kernel
theorem dX5_readsThing_116 : decode cX5_readsThing 116 = .ok (.iconst 5, 1) := by decide +kernel
theorem dX5_readsThing_117 : decode cX5_readsThing 117 = .ok (.aload_n 0, 1) := by decide +kernel
theorem dX5_readsThing_118 : decode cX5_readsThing 118 = .ok (.getfield 106, 3) := by decide +kernel
theorem dX5_readsThing_121 : decode cX5_readsThing 121 = .ok (.imul, 1) := by decide +kernel
theorem dX5_readsThing_122 : decode cX5_readsThing 122 = .ok (.iload_n 3, 1) := by decide +kernel
theorem dX5_readsThing_123 : decode cX5_readsThing 123 = .ok (.iadd, 1) := by decide +kernel
theorem dX5_readsThing_124 : decode cX5_readsThing 124 = .ok (.iload 4, 2) := by decide +kernel
theorem dX5_readsThing_126 : decode cX5_readsThing 126 = .ok (.iastore, 1) := by decide +kernel
theorem dX5_readsThing_127 : decode cX5_readsThing 127 = .ok (.aload_n 0, 1) := by decide +kernel
theorem dX5_readsThing_128 : decode cX5_readsThing 128 = .ok (.dup, 1) := by decide +kernel
theorem dX5_readsThing_129 : decode cX5_readsThing 129 = .ok (.getfield 109, 3) := by decide +kernel
theorem dX5_readsThing_132 : decode cX5_readsThing 132 = .ok (.iconst 1, 1) := by decide +kernel
theorem dX5_readsThing_133 : decode cX5_readsThing 133 = .ok (.iadd, 1) := by decide +kernel
theorem dX5_readsThing_134 : decode cX5_readsThing 134 = .ok (.putfield 109, 3) := by decide +kernel
theorem dX5_readsThing_137 : decode cX5_readsThing 137 = .ok (.iinc 3 1, 3) := by decide +kernel
theorem dX5_readsThing_140 : decode cX5_readsThing 140 = .ok (.goto (-101), 3) := by decide +kernel
theorem dX5_readsThing_143 : decode cX5_readsThing 143 = .ok (.aload_n 0, 1) := by decide +kernel
theorem dX5_readsThing_144 : decode cX5_readsThing 144 = .ok (.dup, 1) := by decide +kernel
theorem dX5_readsThing_145 : decode cX5_readsThing 145 = .ok (.getfield 103, 3) := by decide +kernel
theorem dX5_readsThing_148 : decode cX5_readsThing 148 = .ok (.iload_n 1, 1) := by decide +kernel
theorem dX5_readsThing_149 : decode cX5_readsThing 149 = .ok (.ifCond .ne 7, 3) := by decide +kernel
theorem dX5_readsThing_152 : decode cX5_readsThing 152 = .ok (.iconst 1, 1) := by decide +kernel
theorem dX5_readsThing_153 : decode cX5_readsThing 153 = .ok (.goto 4, 3) := by decide +kernel
theorem dX5_readsThing_156 : decode cX5_readsThing 156 = .ok (.iconst 0, 1) := by decide +kernel
theorem dX5_readsThing_157 : decode cX5_readsThing 157 = .ok (.iadd, 1) := by decide +kernel
theorem dX5_readsThing_158 : decode cX5_readsThing 158 = .ok (.putfield 103, 3) := by decide +kernel
theorem dX5_readsThing_161 : decode cX5_readsThing 161 = .ok (.aload_n 0, 1) := by decide +kernel
theorem dX5_readsThing_162 : decode cX5_readsThing 162 = .ok (.dup, 1) := by decide +kernel
theorem dX5_readsThing_163 : decode cX5_readsThing 163 = .ok (.getfield 106, 3) := by decide +kernel
theorem dX5_readsThing_166 : decode cX5_readsThing 166 = .ok (.iload_n 1, 1) := by decide +kernel
theorem dX5_readsThing_167 : decode cX5_readsThing 167 = .ok (.iadd, 1) := by decide +kernel
theorem dX5_readsThing_168 : decode cX5_readsThing 168 = .ok (.putfield 106, 3) := by decide +kernel
theorem dX5_readsThing_171 : decode cX5_readsThing 171 = .ok (.iconst 1, 1) := by decide +kernel
theorem dX5_readsThing_172 : decode cX5_readsThing 172 = .ok (.ireturn, 1) := by decide +kernel
theorem dX5_empty_0 : decode cX5_empty 0 = .ok (.aload_n 0, 1) := by decide +kernel
theorem dX5_empty_1 : decode cX5_empty 1 = .ok (.iload_n 1, 1) := by decide +kernel
theorem dX5_empty_2 : decode cX5_empty 2 = .ok (.ifCond .ne 7, 3) := by decide +kernel
theorem dX5_empty_5 : decode cX5_empty 5 = .ok (.iconst 0, 1) := by decide +kernel
theorem dX5_empty_6 : decode cX5_empty 6 = .ok (.goto 7, 3) := by decide +kernel
theorem dX5_empty_9 : decode cX5_empty 9 = .ok (.aload_n 0, 1) := by decide +kernel
theorem dX5_empty_10 : decode cX5_empty 10 = .ok (.getfield 103, 3) := by decide +kernel
theorem dX5_empty_13 : decode cX5_empty 13 = .ok (.putfield 103, 3) := by decide +kernel
theorem dX5_empty_16 : decode cX5_empty 16 = .ok (.aload_n 0, 1) := by decide +kernel
theorem dX5_empty_17 : decode cX5_empty 17 = .ok (.iload_n 1, 1) := by decide +kernel
theorem dX5_empty_18 : decode cX5_empty 18 = .ok (.iconst 1, 1) := by decide +kernel
theorem dX5_empty_19 : decode cX5_empty 19 = .ok (.if_icmp .ne 7, 3) := by decide +kernel
theorem dX5_empty_22 : decode cX5_empty 22 = .ok (.iconst 0, 1) := by decide +kernel
theorem dX5_empty_23 : decode cX5_empty 23 = .ok (.goto 7, 3) := by decide +kernel
theorem dX5_empty_26 : decode cX5_empty 26 = .ok (.aload_n 0, 1) := by decide +kernel
theorem dX5_empty_27 : decode cX5_empty 27 = .ok (.getfield 106, 3) := by decide +kernel
theorem dX5_empty_30 : decode cX5_empty 30 = .ok (.putfield 106, 3) := by decide +kernel
theorem dX5_empty_33 : decode cX5_empty 33 = .ok (.return_, 1) := by decide +kernel
theorem dX5_readsText_0 : decode cX5_readsText 0 = .ok (.aload_n 0, 1) := by decide +kernel
theorem dX5_readsText_1 : decode cX5_readsText 1 = .ok (.iconst 0, 1) := by decide +kernel
theorem dX5_readsText_2 : decode cX5_readsText 2 = .ok (.putfield 109, 3) := by decide +kernel
theorem dX5_readsText_5 : decode cX5_readsText 5 = .ok (.aload_n 0, 1) := by decide +kernel
theorem dX5_readsText_6 : decode cX5_readsText 6 = .ok (.iload_n 1, 1) := by decide +kernel
theorem dX5_readsText_7 : decode cX5_readsText 7 = .ok (.invokevirtual 115, 3) := by decide +kernel
theorem dX5_readsText_10 : decode cX5_readsText 10 = .ok (.aload_n 0, 1) := by decide +kernel
theorem dX5_readsText_11 : decode cX5_readsText 11 = .ok (.getfield 25, 3) := by decide +kernel
theorem dX5_readsText_14 : decode cX5_readsText 14 = .ok (.iload_n 1, 1) := by decide +kernel
theorem dX5_readsText_15 : decode cX5_readsText 15 = .ok (.iaload, 1) := by decide +kernel
theorem dX5_readsText_16 : decode cX5_readsText 16 = .ok (.ifCond .le 7, 3) := by decide +kernel
theorem dX5_readsText_19 : decode cX5_readsText 19 = .ok (.iconst 1, 1) := by decide +kernel
theorem dX5_readsText_20 : decode cX5_readsText 20 = .ok (.goto 4, 3) := by decide +kernel
theorem dX5_readsText_23 : decode cX5_readsText 23 = .ok (.iconst 0, 1) := by decide +kernel
theorem dX5_readsText_24 : decode cX5_readsText 24 = .ok (.istore_n 2, 1) := by decide +kernel
theorem dX5_readsText_25 : decode cX5_readsText 25 = .ok (.iload_n 2, 1) := by decide +kernel
theorem dX5_readsText_26 : decode cX5_readsText 26 = .ok (.ifCond .eq 90, 3) := by decide +kernel
theorem dX5_readsText_29 : decode cX5_readsText 29 = .ok (.aload_n 0, 1) := by decide +kernel
theorem dX5_readsText_30 : decode cX5_readsText 30 = .ok (.iload_n 1, 1) := by decide +kernel
theorem dX5_readsText_31 : decode cX5_readsText 31 = .ok (.invokevirtual 119, 3) := by decide +kernel
theorem dX5_readsText_34 : decode cX5_readsText 34 = .ok (.istore_n 3, 1) := by decide +kernel
theorem dX5_readsText_35 : decode cX5_readsText 35 = .ok (.iload_n 3, 1) := by decide +kernel
theorem dX5_readsText_36 : decode cX5_readsText 36 = .ok (.ifCond .eq 20, 3) := by decide +kernel
theorem dX5_readsText_39 : decode cX5_readsText 39 = .ok (.aload_n 0, 1) := by decide +kernel
theorem dX5_readsText_40 : decode cX5_readsText 40 = .ok (.getfield 109, 3) := by decide +kernel
theorem dX5_readsText_43 : decode cX5_readsText 43 = .ok (.aload_n 0, 1) := by decide +kernel
theorem dX5_readsText_44 : decode cX5_readsText 44 = .ok (.getfield 25, 3) := by decide +kernel
theorem dX5_readsText_47 : decode cX5_readsText 47 = .ok (.iload_n 1, 1) := by decide +kernel
theorem dX5_readsText_48 : decode cX5_readsText 48 = .ok (.iaload, 1) := by decide +kernel
theorem dX5_readsText_49 : decode cX5_readsText 49 = .ok (.if_icmp .ge 7, 3) := by decide +kernel
theorem dX5_readsText_52 : decode cX5_readsText 52 = .ok (.iconst 1, 1) := by decide +kernel
theorem dX5_readsText_53 : decode cX5_readsText 53 = .ok (.goto 4, 3) := by decide +kernel
theorem dX5_readsText_56 : decode cX5_readsText 56 = .ok (.iconst 0, 1) := by decide +kernel
theorem dX5_readsText_57 : decode cX5_readsText 57 = .ok (.istore_n 2, 1) := by decide +kernel
theorem dX5_readsText_58 : decode cX5_readsText 58 = .ok (.iload_n 3, 1) := by decide +kernel
theorem dX5_readsText_59 : decode cX5_readsText 59 = .ok (.ifCond .eq 26, 3) := by decide +kernel
theorem dX5_readsText_62 : decode cX5_readsText 62 = .ok (.iload_n 2, 1) := by decide +kernel
theorem dX5_readsText_63 : decode cX5_readsText 63 = .ok (.ifCond .eq 32, 3) := by decide +kernel
theorem dX5_readsText_66 : decode cX5_readsText 66 = .ok (.aload_n 0, 1) := by decide +kernel
theorem dX5_readsText_67 : decode cX5_readsText 67 = .ok (.getfield 22, 3) := by decide +kernel
theorem dX5_readsText_70 : decode cX5_readsText 70 = .ok (.bipush 60, 2) := by decide +kernel
theorem dX5_readsText_72 : decode cX5_readsText 72 = .ok (.iload_n 1, 1) := by decide +kernel
theorem dX5_readsText_73 : decode cX5_readsText 73 = .ok (.imul, 1) := by decide +kernel
theorem dX5_readsText_74 : decode cX5_readsText 74 = .ok (.aload_n 0, 1) := by decide +kernel
theorem dX5_readsText_75 : decode cX5_readsText 75 = .ok (.getfield 109, 3) := by decide +kernel
theorem dX5_readsText_78 : decode cX5_readsText 78 = .ok (.iadd, 1) := by decide +kernel
theorem dX5_readsText_79 : decode cX5_readsText 79 = .ok (.iaload, 1) := by decide +kernel
theorem dX5_readsText_80 : decode cX5_readsText 80 = .ok (.bipush 59, 2) := by decide +kernel
theorem dX5_readsText_82 : decode cX5_readsText 82 = .ok (.if_icmp .eq 13, 3) := by decide +kernel
theorem dX5_readsText_85 : decode cX5_readsText 85 = .ok (.aload_n 0, 1) := by decide +kernel
theorem dX5_readsText_86 : decode cX5_readsText 86 = .ok (.iload_n 1, 1) := by decide +kernel
theorem dX5_readsText_87 : decode cX5_readsText 87 = .ok (.invokevirtual 115, 3) := by decide +kernel
theorem dX5_readsText_90 : decode cX5_readsText 90 = .ok (.aload_n 0, 1) := by decide +kernel
theorem dX5_readsText_91 : decode cX5_readsText 91 = .ok (.getfield 109, 3) := by decide +kernel
theorem dX5_readsText_94 : decode cX5_readsText 94 = .ok (.ireturn, 1) := by decide +kernel
theorem dX5_readsText_95 : decode cX5_readsText 95 = .ok (.aload_n 0, 1) := by decide +kernel
theorem dX5_readsText_96 : decode cX5_readsText 96 = .ok (.dup, 1) := by decide +kernel
theorem dX5_readsText_97 : decode cX5_readsText 97 = .ok (.getfield 109, 3) := by decide +kernel
theorem dX5_readsText_100 : decode cX5_readsText 100 = .ok (.iload_n 2, 1) := by decide +kernel
theorem dX5_readsText_101 : decode cX5_readsText 101 = .ok (.ifCond .eq 7, 3) := by decide +kernel
theorem dX5_readsText_104 : decode cX5_readsText 104 = .ok (.iconst 1, 1) := by decide +kernel
theorem dX5_readsText_105 : decode cX5_readsText 105 = .ok (.goto 4, 3) := by decide +kernel
theorem dX5_readsText_108 : decode cX5_readsText 108 = .ok (.iconst 0, 1) := by decide +kernel
theorem dX5_readsText_109 : decode cX5_readsText 109 = .ok (.iadd, 1) := by decide +kernel
theorem dX5_readsText_110 : decode cX5_readsText 110 = .ok (.putfield 109, 3) := by decide +kernel
theorem dX5_readsText_113 : decode cX5_readsText 113 = .ok (.goto (-88), 3) := by decide +kernel
theorem dX5_readsText_116 : decode cX5_readsText 116 = .ok (.iconst (-1), 1) := by decide +kernel
theorem dX5_readsText_117 : decode cX5_readsText 117 = .ok (.ireturn, 1) := by decide +kernel
theorem dX5_reads_0 : decode cX5_reads 0 = .ok (.aload_n 0, 1) := by decide +kernel
theorem dX5_reads_1 : decode cX5_reads 1 = .ok (.iconst 0, 1) := by decide +kernel
theorem dX5_reads_2 : decode cX5_reads 2 = .ok (.invokevirtual 122, 3) := by decide +kernel
theorem dX5_reads_5 : decode cX5_reads 5 = .ok (.pop, 1) := by decide +kernel
theorem dX5_reads_6 : decode cX5_reads 6 = .ok (.aload_n 0, 1) := by decide +kernel
theorem dX5_reads_7 : decode cX5_reads 7 = .ok (.iconst 1, 1) := by decide +kernel
theorem dX5_reads_8 : decode cX5_reads 8 = .ok (.invokevirtual 122, 3) := by decide +kernel
theorem dX5_reads_11 : decode cX5_reads 11 = .ok (.pop, 1) := by decide +kernel
theorem dX5_reads_12 : decode cX5_reads 12 = .ok (.return_, 1) := by decide +kernel
theorem dX5_fault_0 : decode cX5_fault 0 = .ok (.iload_n 1, 1) := by decide +kernel
theorem dX5_fault_1 : decode cX5_fault 1 = .ok (.invokestatic 89, 3) := by decide +kernel
theorem dX5_fault_4 : decode cX5_fault 4 = .ok (.ifCond .eq 11, 3) := by decide +kernel
theorem dX5_fault_7 : decode cX5_fault 7 = .ok (.aload_n 0, 1) := by decide +kernel
theorem dX5_fault_8 : decode cX5_fault 8 = .ok (.iload_n 1, 1) := by decide +kernel
theorem dX5_fault_9 : decode cX5_fault 9 = .ok (.invokevirtual 122, 3) := by decide +kernel
theorem dX5_fault_12 : decode cX5_fault 12 = .ok (.goto 5, 3) := by decide +kernel
theorem dX5_fault_15 : decode cX5_fault 15 = .ok (.bipush (-2), 2) := by decide +kernel
theorem dX5_fault_17 : decode cX5_fault 17 = .ok (.ireturn, 1) := by decide +kernel
theorem dX5_isLeaf_0 : decode cX5_isLeaf 0 = .ok (.iload_n 1, 1) := by decide +kernel
theorem dX5_isLeaf_1 : decode cX5_isLeaf 1 = .ok (.i2l, 1) := by decide +kernel
theorem dX5_isLeaf_2 : decode cX5_isLeaf 2 = .ok (.lconst 0, 1) := by decide +kernel
theorem dX5_isLeaf_3 : decode cX5_isLeaf 3 = .ok (.aload_n 0, 1) := by decide +kernel
theorem dX5_isLeaf_4 : decode cX5_isLeaf 4 = .ok (.getfield 103, 3) := by decide +kernel
theorem dX5_isLeaf_7 : decode cX5_isLeaf 7 = .ok (.iconst 1, 1) := by decide +kernel
theorem dX5_isLeaf_8 : decode cX5_isLeaf 8 = .ok (.isub, 1) := by decide +kernel
theorem dX5_isLeaf_9 : decode cX5_isLeaf 9 = .ok (.i2l, 1) := by decide +kernel
theorem dX5_isLeaf_10 : decode cX5_isLeaf 10 = .ok (.invokestatic 61, 3) := by decide +kernel
theorem dX5_isLeaf_13 : decode cX5_isLeaf 13 = .ok (.ireturn, 1) := by decide +kernel
theorem dX5_isLaw_0 : decode cX5_isLaw 0 = .ok (.iload_n 0, 1) := by decide +kernel
theorem dX5_isLaw_1 : decode cX5_isLaw 1 = .ok (.i2l, 1) := by decide +kernel
theorem dX5_isLaw_2 : decode cX5_isLaw 2 = .ok (.lconst 0, 1) := by decide +kernel
theorem dX5_isLaw_3 : decode cX5_isLaw 3 = .ok (.ldc2_w 125, 3) := by decide +kernel
theorem dX5_isLaw_6 : decode cX5_isLaw 6 = .ok (.invokestatic 61, 3) := by decide +kernel
theorem dX5_isLaw_9 : decode cX5_isLaw 9 = .ok (.ireturn, 1) := by decide +kernel
theorem dX5_areLaws_0 : decode cX5_areLaws 0 = .ok (.iload_n 0, 1) := by decide +kernel
theorem dX5_areLaws_1 : decode cX5_areLaws 1 = .ok (.i2l, 1) := by decide +kernel
theorem dX5_areLaws_2 : decode cX5_areLaws 2 = .ok (.lconst 0, 1) := by decide +kernel
theorem dX5_areLaws_3 : decode cX5_areLaws 3 = .ok (.ldc2_w 92, 3) := by decide +kernel
theorem dX5_areLaws_6 : decode cX5_areLaws 6 = .ok (.invokestatic 61, 3) := by decide +kernel
theorem dX5_areLaws_9 : decode cX5_areLaws 9 = .ok (.ireturn, 1) := by decide +kernel
theorem dX5_areTurns_0 : decode cX5_areTurns 0 = .ok (.iload_n 0, 1) := by decide +kernel
theorem dX5_areTurns_1 : decode cX5_areTurns 1 = .ok (.i2l, 1) := by decide +kernel
theorem dX5_areTurns_2 : decode cX5_areTurns 2 = .ok (.lconst 0, 1) := by decide +kernel
theorem dX5_areTurns_3 : decode cX5_areTurns 3 = .ok (.ldc2_w 68, 3) := by decide +kernel
theorem dX5_areTurns_6 : decode cX5_areTurns 6 = .ok (.invokestatic 61, 3) := by decide +kernel
theorem dX5_areTurns_9 : decode cX5_areTurns 9 = .ok (.ireturn, 1) := by decide +kernel
theorem dX5_isDay_0 : decode cX5_isDay 0 = .ok (.iload_n 0, 1) := by decide +kernel
theorem dX5_isDay_1 : decode cX5_isDay 1 = .ok (.i2l, 1) := by decide +kernel
theorem dX5_isDay_2 : decode cX5_isDay 2 = .ok (.lconst 0, 1) := by decide +kernel
theorem dX5_isDay_3 : decode cX5_isDay 3 = .ok (.ldc2_w 127, 3) := by decide +kernel
theorem dX5_isDay_6 : decode cX5_isDay 6 = .ok (.invokestatic 61, 3) := by decide +kernel
theorem dX5_isDay_9 : decode cX5_isDay 9 = .ok (.ireturn, 1) := by decide +kernel
theorem dX5_leaf_0 : decode cX5_leaf 0 = .ok (.aload_n 0, 1) := by decide +kernel
theorem dX5_leaf_1 : decode cX5_leaf 1 = .ok (.invokevirtual 129, 3) := by decide +kernel
theorem dX5_leaf_4 : decode cX5_leaf 4 = .ok (.aload_n 0, 1) := by decide +kernel
theorem dX5_leaf_5 : decode cX5_leaf 5 = .ok (.iload_n 1, 1) := by decide +kernel
theorem dX5_leaf_6 : decode cX5_leaf 6 = .ok (.invokevirtual 132, 3) := by decide +kernel
theorem dX5_leaf_9 : decode cX5_leaf 9 = .ok (.ifCond .eq 28, 3) := by decide +kernel
theorem dX5_leaf_12 : decode cX5_leaf 12 = .ok (.iload_n 2, 1) := by decide +kernel
theorem dX5_leaf_13 : decode cX5_leaf 13 = .ok (.i2l, 1) := by decide +kernel
theorem dX5_leaf_14 : decode cX5_leaf 14 = .ok (.lconst 0, 1) := by decide +kernel
theorem dX5_leaf_15 : decode cX5_leaf 15 = .ok (.ldc2_w 74, 3) := by decide +kernel
theorem dX5_leaf_18 : decode cX5_leaf 18 = .ok (.invokestatic 61, 3) := by decide +kernel
theorem dX5_leaf_21 : decode cX5_leaf 21 = .ok (.ifCond .eq 16, 3) := by decide +kernel
theorem dX5_leaf_24 : decode cX5_leaf 24 = .ok (.aload_n 0, 1) := by decide +kernel
theorem dX5_leaf_25 : decode cX5_leaf 25 = .ok (.getfield 28, 3) := by decide +kernel
theorem dX5_leaf_28 : decode cX5_leaf 28 = .ok (.iconst 3, 1) := by decide +kernel
theorem dX5_leaf_29 : decode cX5_leaf 29 = .ok (.iload_n 1, 1) := by decide +kernel
theorem dX5_leaf_30 : decode cX5_leaf 30 = .ok (.imul, 1) := by decide +kernel
theorem dX5_leaf_31 : decode cX5_leaf 31 = .ok (.iload_n 2, 1) := by decide +kernel
theorem dX5_leaf_32 : decode cX5_leaf 32 = .ok (.iadd, 1) := by decide +kernel
theorem dX5_leaf_33 : decode cX5_leaf 33 = .ok (.iaload, 1) := by decide +kernel
theorem dX5_leaf_34 : decode cX5_leaf 34 = .ok (.goto 5, 3) := by decide +kernel
theorem dX5_leaf_37 : decode cX5_leaf 37 = .ok (.bipush (-2), 2) := by decide +kernel
theorem dX5_leaf_39 : decode cX5_leaf 39 = .ok (.ireturn, 1) := by decide +kernel
theorem dX5_rule_0 : decode cX5_rule 0 = .ok (.aload_n 0, 1) := by decide +kernel
theorem dX5_rule_1 : decode cX5_rule 1 = .ok (.invokevirtual 129, 3) := by decide +kernel
theorem dX5_rule_4 : decode cX5_rule 4 = .ok (.iload_n 1, 1) := by decide +kernel
theorem dX5_rule_5 : decode cX5_rule 5 = .ok (.i2l, 1) := by decide +kernel
theorem dX5_rule_6 : decode cX5_rule 6 = .ok (.lconst 0, 1) := by decide +kernel
theorem dX5_rule_7 : decode cX5_rule 7 = .ok (.aload_n 0, 1) := by decide +kernel
theorem dX5_rule_8 : decode cX5_rule 8 = .ok (.getfield 106, 3) := by decide +kernel
theorem dX5_rule_11 : decode cX5_rule 11 = .ok (.iconst 1, 1) := by decide +kernel
theorem dX5_rule_12 : decode cX5_rule 12 = .ok (.isub, 1) := by decide +kernel
theorem dX5_rule_13 : decode cX5_rule 13 = .ok (.i2l, 1) := by decide +kernel
theorem dX5_rule_14 : decode cX5_rule 14 = .ok (.invokestatic 61, 3) := by decide +kernel
theorem dX5_rule_17 : decode cX5_rule 17 = .ok (.ifCond .eq 28, 3) := by decide +kernel
theorem dX5_rule_20 : decode cX5_rule 20 = .ok (.iload_n 2, 1) := by decide +kernel
theorem dX5_rule_21 : decode cX5_rule 21 = .ok (.i2l, 1) := by decide +kernel
theorem dX5_rule_22 : decode cX5_rule 22 = .ok (.lconst 0, 1) := by decide +kernel
theorem dX5_rule_23 : decode cX5_rule 23 = .ok (.ldc2_w 135, 3) := by decide +kernel
theorem dX5_rule_26 : decode cX5_rule 26 = .ok (.invokestatic 61, 3) := by decide +kernel
theorem dX5_rule_29 : decode cX5_rule 29 = .ok (.ifCond .eq 16, 3) := by decide +kernel
theorem dX5_rule_32 : decode cX5_rule 32 = .ok (.aload_n 0, 1) := by decide +kernel
theorem dX5_rule_33 : decode cX5_rule 33 = .ok (.getfield 31, 3) := by decide +kernel
theorem dX5_rule_36 : decode cX5_rule 36 = .ok (.iconst 5, 1) := by decide +kernel
theorem dX5_rule_37 : decode cX5_rule 37 = .ok (.iload_n 1, 1) := by decide +kernel
theorem dX5_rule_38 : decode cX5_rule 38 = .ok (.imul, 1) := by decide +kernel
theorem dX5_rule_39 : decode cX5_rule 39 = .ok (.iload_n 2, 1) := by decide +kernel
theorem dX5_rule_40 : decode cX5_rule 40 = .ok (.iadd, 1) := by decide +kernel
theorem dX5_rule_41 : decode cX5_rule 41 = .ok (.iaload, 1) := by decide +kernel
theorem dX5_rule_42 : decode cX5_rule 42 = .ok (.goto 5, 3) := by decide +kernel
theorem dX5_rule_45 : decode cX5_rule 45 = .ok (.bipush (-2), 2) := by decide +kernel
theorem dX5_rule_47 : decode cX5_rule 47 = .ok (.ireturn, 1) := by decide +kernel
theorem dX5_crack_0 : decode cX5_crack 0 = .ok (.iload_n 1, 1) := by decide +kernel
theorem dX5_crack_1 : decode cX5_crack 1 = .ok (.i2l, 1) := by decide +kernel
theorem dX5_crack_2 : decode cX5_crack 2 = .ok (.lconst 0, 1) := by decide +kernel
theorem dX5_crack_3 : decode cX5_crack 3 = .ok (.ldc2_w 137, 3) := by decide +kernel
theorem dX5_crack_6 : decode cX5_crack 6 = .ok (.invokestatic 61, 3) := by decide +kernel
theorem dX5_crack_9 : decode cX5_crack 9 = .ok (.ifCond .eq 15, 3) := by decide +kernel
theorem dX5_crack_12 : decode cX5_crack 12 = .ok (.iload_n 2, 1) := by decide +kernel
theorem dX5_crack_13 : decode cX5_crack 13 = .ok (.i2l, 1) := by decide +kernel
theorem dX5_crack_14 : decode cX5_crack 14 = .ok (.lconst 0, 1) := by decide +kernel
theorem dX5_crack_15 : decode cX5_crack 15 = .ok (.ldc2_w 137, 3) := by decide +kernel
theorem dX5_crack_18 : decode cX5_crack 18 = .ok (.invokestatic 61, 3) := by decide +kernel
theorem dX5_crack_21 : decode cX5_crack 21 = .ok (.ifCond .ne 6, 3) := by decide +kernel
theorem dX5_crack_24 : decode cX5_crack 24 = .ok (.bipush (-2), 2) := by decide +kernel
theorem dX5_crack_26 : decode cX5_crack 26 = .ok (.ireturn, 1) := by decide +kernel
theorem dX5_crack_27 : decode cX5_crack 27 = .ok (.aload_n 0, 1) := by decide +kernel
theorem dX5_crack_28 : decode cX5_crack 28 = .ok (.getfield 139, 3) := by decide +kernel
theorem dX5_crack_31 : decode cX5_crack 31 = .ok (.bipush 8, 2) := by decide +kernel
theorem dX5_crack_33 : decode cX5_crack 33 = .ok (.if_icmp .ne 6, 3) := by decide +kernel
theorem dX5_crack_36 : decode cX5_crack 36 = .ok (.bipush (-4), 2) := by decide +kernel
theorem dX5_crack_38 : decode cX5_crack 38 = .ok (.ireturn, 1) := by decide +kernel
theorem dX5_crack_39 : decode cX5_crack 39 = .ok (.aload_n 0, 1) := by decide +kernel
theorem dX5_crack_40 : decode cX5_crack 40 = .ok (.getfield 34, 3) := by decide +kernel
theorem dX5_crack_43 : decode cX5_crack 43 = .ok (.iconst 2, 1) := by decide +kernel
theorem dX5_crack_44 : decode cX5_crack 44 = .ok (.aload_n 0, 1) := by decide +kernel
theorem dX5_crack_45 : decode cX5_crack 45 = .ok (.getfield 139, 3) := by decide +kernel
theorem dX5_crack_48 : decode cX5_crack 48 = .ok (.imul, 1) := by decide +kernel
theorem dX5_crack_49 : decode cX5_crack 49 = .ok (.iload_n 1, 1) := by decide +kernel
theorem dX5_crack_50 : decode cX5_crack 50 = .ok (.iastore, 1) := by decide +kernel
theorem dX5_crack_51 : decode cX5_crack 51 = .ok (.aload_n 0, 1) := by decide +kernel
theorem dX5_crack_52 : decode cX5_crack 52 = .ok (.getfield 34, 3) := by decide +kernel
theorem dX5_crack_55 : decode cX5_crack 55 = .ok (.iconst 2, 1) := by decide +kernel
theorem dX5_crack_56 : decode cX5_crack 56 = .ok (.aload_n 0, 1) := by decide +kernel
theorem dX5_crack_57 : decode cX5_crack 57 = .ok (.getfield 139, 3) := by decide +kernel
theorem dX5_crack_60 : decode cX5_crack 60 = .ok (.imul, 1) := by decide +kernel
theorem dX5_crack_61 : decode cX5_crack 61 = .ok (.iconst 1, 1) := by decide +kernel
theorem dX5_crack_62 : decode cX5_crack 62 = .ok (.iadd, 1) := by decide +kernel
theorem dX5_crack_63 : decode cX5_crack 63 = .ok (.iload_n 2, 1) := by decide +kernel
theorem dX5_crack_64 : decode cX5_crack 64 = .ok (.iastore, 1) := by decide +kernel
theorem dX5_crack_65 : decode cX5_crack 65 = .ok (.aload_n 0, 1) := by decide +kernel
theorem dX5_crack_66 : decode cX5_crack 66 = .ok (.dup, 1) := by decide +kernel
theorem dX5_crack_67 : decode cX5_crack 67 = .ok (.getfield 139, 3) := by decide +kernel
theorem dX5_crack_70 : decode cX5_crack 70 = .ok (.iconst 1, 1) := by decide +kernel
theorem dX5_crack_71 : decode cX5_crack 71 = .ok (.iadd, 1) := by decide +kernel
theorem dX5_crack_72 : decode cX5_crack 72 = .ok (.putfield 139, 3) := by decide +kernel
theorem dX5_crack_75 : decode cX5_crack 75 = .ok (.aload_n 0, 1) := by decide +kernel
theorem dX5_crack_76 : decode cX5_crack 76 = .ok (.getfield 139, 3) := by decide +kernel
theorem dX5_crack_79 : decode cX5_crack 79 = .ok (.ireturn, 1) := by decide +kernel
theorem dX5_deed_0 : decode cX5_deed 0 = .ok (.iload_n 1, 1) := by decide +kernel
theorem dX5_deed_1 : decode cX5_deed 1 = .ok (.invokestatic 142, 3) := by decide +kernel
theorem dX5_deed_4 : decode cX5_deed 4 = .ok (.ifCond .eq 10, 3) := by decide +kernel
theorem dX5_deed_7 : decode cX5_deed 7 = .ok (.iload_n 2, 1) := by decide +kernel
theorem dX5_deed_8 : decode cX5_deed 8 = .ok (.invokestatic 145, 3) := by decide +kernel
theorem dX5_deed_11 : decode cX5_deed 11 = .ok (.ifCond .ne 6, 3) := by decide +kernel
theorem dX5_deed_14 : decode cX5_deed 14 = .ok (.bipush (-2), 2) := by decide +kernel
theorem dX5_deed_16 : decode cX5_deed 16 = .ok (.ireturn, 1) := by decide +kernel
theorem dX5_deed_17 : decode cX5_deed 17 = .ok (.aload_n 0, 1) := by decide +kernel
theorem dX5_deed_18 : decode cX5_deed 18 = .ok (.getfield 148, 3) := by decide +kernel
theorem dX5_deed_21 : decode cX5_deed 21 = .ok (.bipush 12, 2) := by decide +kernel
theorem dX5_deed_23 : decode cX5_deed 23 = .ok (.if_icmp .ne 6, 3) := by decide +kernel
theorem dX5_deed_26 : decode cX5_deed 26 = .ok (.bipush (-4), 2) := by decide +kernel
theorem dX5_deed_28 : decode cX5_deed 28 = .ok (.ireturn, 1) := by decide +kernel
theorem dX5_deed_29 : decode cX5_deed 29 = .ok (.aload_n 0, 1) := by decide +kernel
theorem dX5_deed_30 : decode cX5_deed 30 = .ok (.getfield 37, 3) := by decide +kernel
theorem dX5_deed_33 : decode cX5_deed 33 = .ok (.iconst 2, 1) := by decide +kernel
theorem dX5_deed_34 : decode cX5_deed 34 = .ok (.aload_n 0, 1) := by decide +kernel
theorem dX5_deed_35 : decode cX5_deed 35 = .ok (.getfield 148, 3) := by decide +kernel
theorem dX5_deed_38 : decode cX5_deed 38 = .ok (.imul, 1) := by decide +kernel
theorem dX5_deed_39 : decode cX5_deed 39 = .ok (.iload_n 1, 1) := by decide +kernel
theorem dX5_deed_40 : decode cX5_deed 40 = .ok (.iastore, 1) := by decide +kernel
theorem dX5_deed_41 : decode cX5_deed 41 = .ok (.aload_n 0, 1) := by decide +kernel
theorem dX5_deed_42 : decode cX5_deed 42 = .ok (.getfield 37, 3) := by decide +kernel
theorem dX5_deed_45 : decode cX5_deed 45 = .ok (.iconst 2, 1) := by decide +kernel
theorem dX5_deed_46 : decode cX5_deed 46 = .ok (.aload_n 0, 1) := by decide +kernel
theorem dX5_deed_47 : decode cX5_deed 47 = .ok (.getfield 148, 3) := by decide +kernel
theorem dX5_deed_50 : decode cX5_deed 50 = .ok (.imul, 1) := by decide +kernel
theorem dX5_deed_51 : decode cX5_deed 51 = .ok (.iconst 1, 1) := by decide +kernel
theorem dX5_deed_52 : decode cX5_deed 52 = .ok (.iadd, 1) := by decide +kernel
theorem dX5_deed_53 : decode cX5_deed 53 = .ok (.iload_n 2, 1) := by decide +kernel
theorem dX5_deed_54 : decode cX5_deed 54 = .ok (.iastore, 1) := by decide +kernel
theorem dX5_deed_55 : decode cX5_deed 55 = .ok (.aload_n 0, 1) := by decide +kernel
theorem dX5_deed_56 : decode cX5_deed 56 = .ok (.dup, 1) := by decide +kernel
theorem dX5_deed_57 : decode cX5_deed 57 = .ok (.getfield 148, 3) := by decide +kernel
theorem dX5_deed_60 : decode cX5_deed 60 = .ok (.iconst 1, 1) := by decide +kernel
theorem dX5_deed_61 : decode cX5_deed 61 = .ok (.iadd, 1) := by decide +kernel
theorem dX5_deed_62 : decode cX5_deed 62 = .ok (.putfield 148, 3) := by decide +kernel
theorem dX5_deed_65 : decode cX5_deed 65 = .ok (.aload_n 0, 1) := by decide +kernel
theorem dX5_deed_66 : decode cX5_deed 66 = .ok (.getfield 148, 3) := by decide +kernel
theorem dX5_deed_69 : decode cX5_deed 69 = .ok (.ireturn, 1) := by decide +kernel
theorem dX5_back_0 : decode cX5_back 0 = .ok (.iload_n 1, 1) := by decide +kernel
theorem dX5_back_1 : decode cX5_back 1 = .ok (.invokestatic 89, 3) := by decide +kernel
theorem dX5_back_4 : decode cX5_back 4 = .ok (.ifCond .ne 6, 3) := by decide +kernel
theorem dX5_back_7 : decode cX5_back 7 = .ok (.bipush (-2), 2) := by decide +kernel
theorem dX5_back_9 : decode cX5_back 9 = .ok (.ireturn, 1) := by decide +kernel
theorem dX5_back_10 : decode cX5_back 10 = .ok (.iload_n 1, 1) := by decide +kernel
theorem dX5_back_11 : decode cX5_back 11 = .ok (.ifCond .ne 10, 3) := by decide +kernel
theorem dX5_back_14 : decode cX5_back 14 = .ok (.aload_n 0, 1) := by decide +kernel
theorem dX5_back_15 : decode cX5_back 15 = .ok (.getfield 139, 3) := by decide +kernel
theorem dX5_back_18 : decode cX5_back 18 = .ok (.goto 7, 3) := by decide +kernel
theorem dX5_back_21 : decode cX5_back 21 = .ok (.aload_n 0, 1) := by decide +kernel
theorem dX5_back_22 : decode cX5_back 22 = .ok (.getfield 148, 3) := by decide +kernel
theorem dX5_back_25 : decode cX5_back 25 = .ok (.istore_n 2, 1) := by decide +kernel
theorem dX5_back_26 : decode cX5_back 26 = .ok (.iload_n 2, 1) := by decide +kernel
theorem dX5_back_27 : decode cX5_back 27 = .ok (.ifCond .ne 6, 3) := by decide +kernel
theorem dX5_back_30 : decode cX5_back 30 = .ok (.bipush (-3), 2) := by decide +kernel
theorem dX5_back_32 : decode cX5_back 32 = .ok (.ireturn, 1) := by decide +kernel
theorem dX5_back_33 : decode cX5_back 33 = .ok (.aload_n 0, 1) := by decide +kernel
theorem dX5_back_34 : decode cX5_back 34 = .ok (.dup, 1) := by decide +kernel
theorem dX5_back_35 : decode cX5_back 35 = .ok (.getfield 139, 3) := by decide +kernel
theorem dX5_back_38 : decode cX5_back 38 = .ok (.iload_n 1, 1) := by decide +kernel
theorem dX5_back_39 : decode cX5_back 39 = .ok (.ifCond .ne 7, 3) := by decide +kernel
theorem dX5_back_42 : decode cX5_back 42 = .ok (.iconst 1, 1) := by decide +kernel
theorem dX5_back_43 : decode cX5_back 43 = .ok (.goto 4, 3) := by decide +kernel
theorem dX5_back_46 : decode cX5_back 46 = .ok (.iconst 0, 1) := by decide +kernel
theorem dX5_back_47 : decode cX5_back 47 = .ok (.isub, 1) := by decide +kernel
theorem dX5_back_48 : decode cX5_back 48 = .ok (.putfield 139, 3) := by decide +kernel
theorem dX5_back_51 : decode cX5_back 51 = .ok (.aload_n 0, 1) := by decide +kernel
theorem dX5_back_52 : decode cX5_back 52 = .ok (.dup, 1) := by decide +kernel
theorem dX5_back_53 : decode cX5_back 53 = .ok (.getfield 148, 3) := by decide +kernel
theorem dX5_back_56 : decode cX5_back 56 = .ok (.iload_n 1, 1) := by decide +kernel
theorem dX5_back_57 : decode cX5_back 57 = .ok (.isub, 1) := by decide +kernel
theorem dX5_back_58 : decode cX5_back 58 = .ok (.putfield 148, 3) := by decide +kernel
theorem dX5_back_61 : decode cX5_back 61 = .ok (.iload_n 2, 1) := by decide +kernel
theorem dX5_back_62 : decode cX5_back 62 = .ok (.iconst 1, 1) := by decide +kernel
theorem dX5_back_63 : decode cX5_back 63 = .ok (.isub, 1) := by decide +kernel
theorem dX5_back_64 : decode cX5_back 64 = .ok (.ireturn, 1) := by decide +kernel
theorem dX5_set_0 : decode cX5_set 0 = .ok (.iload_n 1, 1) := by decide +kernel
theorem dX5_set_1 : decode cX5_set 1 = .ok (.invokestatic 89, 3) := by decide +kernel
theorem dX5_set_4 : decode cX5_set 4 = .ok (.ifCond .eq 15, 3) := by decide +kernel
theorem dX5_set_7 : decode cX5_set 7 = .ok (.iload_n 2, 1) := by decide +kernel
theorem dX5_set_8 : decode cX5_set 8 = .ok (.i2l, 1) := by decide +kernel
theorem dX5_set_9 : decode cX5_set 9 = .ok (.lconst 0, 1) := by decide +kernel
theorem dX5_set_10 : decode cX5_set 10 = .ok (.ldc2_w 68, 3) := by decide +kernel
theorem dX5_set_13 : decode cX5_set 13 = .ok (.invokestatic 61, 3) := by decide +kernel
theorem dX5_set_16 : decode cX5_set 16 = .ok (.ifCond .ne 6, 3) := by decide +kernel
theorem dX5_set_19 : decode cX5_set 19 = .ok (.bipush (-2), 2) := by decide +kernel
theorem dX5_set_21 : decode cX5_set 21 = .ok (.ireturn, 1) := by decide +kernel
theorem dX5_set_22 : decode cX5_set 22 = .ok (.aload_n 0, 1) := by decide +kernel
theorem dX5_set_23 : decode cX5_set 23 = .ok (.getfield 40, 3) := by decide +kernel
theorem dX5_set_26 : decode cX5_set 26 = .ok (.iload_n 1, 1) := by decide +kernel
theorem dX5_set_27 : decode cX5_set 27 = .ok (.iaload, 1) := by decide +kernel
theorem dX5_set_28 : decode cX5_set 28 = .ok (.istore_n 3, 1) := by decide +kernel
theorem dX5_set_29 : decode cX5_set 29 = .ok (.aload_n 0, 1) := by decide +kernel
theorem dX5_set_30 : decode cX5_set 30 = .ok (.getfield 40, 3) := by decide +kernel
theorem dX5_set_33 : decode cX5_set 33 = .ok (.iload_n 1, 1) := by decide +kernel
theorem dX5_set_34 : decode cX5_set 34 = .ok (.iload_n 2, 1) := by decide +kernel
theorem dX5_set_35 : decode cX5_set 35 = .ok (.iastore, 1) := by decide +kernel
theorem dX5_set_36 : decode cX5_set 36 = .ok (.iload_n 3, 1) := by decide +kernel
theorem dX5_set_37 : decode cX5_set 37 = .ok (.ireturn, 1) := by decide +kernel
theorem dX5_turnsOne_0 : decode cX5_turnsOne 0 = .ok (.aload_n 0, 1) := by decide +kernel
theorem dX5_turnsOne_1 : decode cX5_turnsOne 1 = .ok (.getfield 28, 3) := by decide +kernel
theorem dX5_turnsOne_4 : decode cX5_turnsOne 4 = .ok (.iconst 3, 1) := by decide +kernel
theorem dX5_turnsOne_5 : decode cX5_turnsOne 5 = .ok (.iload_n 1, 1) := by decide +kernel
theorem dX5_turnsOne_6 : decode cX5_turnsOne 6 = .ok (.imul, 1) := by decide +kernel
theorem dX5_turnsOne_7 : decode cX5_turnsOne 7 = .ok (.iaload, 1) := by decide +kernel
theorem dX5_turnsOne_8 : decode cX5_turnsOne 8 = .ok (.istore_n 3, 1) := by decide +kernel
theorem dX5_turnsOne_9 : decode cX5_turnsOne 9 = .ok (.aload_n 0, 1) := by decide +kernel
theorem dX5_turnsOne_10 : decode cX5_turnsOne 10 = .ok (.getfield 28, 3) := by decide +kernel
theorem dX5_turnsOne_13 : decode cX5_turnsOne 13 = .ok (.iconst 3, 1) := by decide +kernel
theorem dX5_turnsOne_14 : decode cX5_turnsOne 14 = .ok (.iload_n 1, 1) := by decide +kernel
theorem dX5_turnsOne_15 : decode cX5_turnsOne 15 = .ok (.imul, 1) := by decide +kernel
theorem dX5_turnsOne_16 : decode cX5_turnsOne 16 = .ok (.iconst 1, 1) := by decide +kernel
theorem dX5_turnsOne_17 : decode cX5_turnsOne 17 = .ok (.iadd, 1) := by decide +kernel
theorem dX5_turnsOne_18 : decode cX5_turnsOne 18 = .ok (.iaload, 1) := by decide +kernel
theorem dX5_turnsOne_19 : decode cX5_turnsOne 19 = .ok (.istore 4, 2) := by decide +kernel
theorem dX5_turnsOne_21 : decode cX5_turnsOne 21 = .ok (.iconst 0, 1) := by decide +kernel
theorem dX5_turnsOne_22 : decode cX5_turnsOne 22 = .ok (.istore 5, 2) := by decide +kernel
theorem dX5_turnsOne_24 : decode cX5_turnsOne 24 = .ok (.iload 5, 2) := by decide +kernel
theorem dX5_turnsOne_26 : decode cX5_turnsOne 26 = .ok (.iload_n 2, 1) := by decide +kernel
theorem dX5_turnsOne_27 : decode cX5_turnsOne 27 = .ok (.if_icmp .ge 21, 3) := by decide +kernel
theorem dX5_turnsOne_30 : decode cX5_turnsOne 30 = .ok (.iload_n 3, 1) := by decide +kernel
theorem dX5_turnsOne_31 : decode cX5_turnsOne 31 = .ok (.istore 6, 2) := by decide +kernel
theorem dX5_turnsOne_33 : decode cX5_turnsOne 33 = .ok (.iconst 5, 1) := by decide +kernel
theorem dX5_turnsOne_34 : decode cX5_turnsOne 34 = .ok (.iload 4, 2) := by decide +kernel
theorem dX5_turnsOne_36 : decode cX5_turnsOne 36 = .ok (.isub, 1) := by decide +kernel
theorem dX5_turnsOne_37 : decode cX5_turnsOne 37 = .ok (.istore_n 3, 1) := by decide +kernel
theorem dX5_turnsOne_38 : decode cX5_turnsOne 38 = .ok (.iload 6, 2) := by decide +kernel
theorem dX5_turnsOne_40 : decode cX5_turnsOne 40 = .ok (.istore 4, 2) := by decide +kernel
theorem dX5_turnsOne_42 : decode cX5_turnsOne 42 = .ok (.iinc 5 1, 3) := by decide +kernel
theorem dX5_turnsOne_45 : decode cX5_turnsOne 45 = .ok (.goto (-21), 3) := by decide +kernel
theorem dX5_turnsOne_48 : decode cX5_turnsOne 48 = .ok (.aload_n 0, 1) := by decide +kernel
theorem dX5_turnsOne_49 : decode cX5_turnsOne 49 = .ok (.getfield 43, 3) := by decide +kernel
theorem dX5_turnsOne_52 : decode cX5_turnsOne 52 = .ok (.iload_n 1, 1) := by decide +kernel
theorem dX5_turnsOne_53 : decode cX5_turnsOne 53 = .ok (.iload_n 3, 1) := by decide +kernel
theorem dX5_turnsOne_54 : decode cX5_turnsOne 54 = .ok (.iastore, 1) := by decide +kernel
theorem dX5_turnsOne_55 : decode cX5_turnsOne 55 = .ok (.aload_n 0, 1) := by decide +kernel
theorem dX5_turnsOne_56 : decode cX5_turnsOne 56 = .ok (.getfield 46, 3) := by decide +kernel
theorem dX5_turnsOne_59 : decode cX5_turnsOne 59 = .ok (.iload_n 1, 1) := by decide +kernel
theorem dX5_turnsOne_60 : decode cX5_turnsOne 60 = .ok (.iload 4, 2) := by decide +kernel
theorem dX5_turnsOne_62 : decode cX5_turnsOne 62 = .ok (.iastore, 1) := by decide +kernel
theorem dX5_turnsOne_63 : decode cX5_turnsOne 63 = .ok (.return_, 1) := by decide +kernel
theorem dX5_isCracked_0 : decode cX5_isCracked 0 = .ok (.iconst 0, 1) := by decide +kernel
theorem dX5_isCracked_1 : decode cX5_isCracked 1 = .ok (.istore_n 3, 1) := by decide +kernel
theorem dX5_isCracked_2 : decode cX5_isCracked 2 = .ok (.iconst 0, 1) := by decide +kernel
theorem dX5_isCracked_3 : decode cX5_isCracked 3 = .ok (.istore 4, 2) := by decide +kernel
theorem dX5_isCracked_5 : decode cX5_isCracked 5 = .ok (.iload 4, 2) := by decide +kernel
theorem dX5_isCracked_7 : decode cX5_isCracked 7 = .ok (.aload_n 0, 1) := by decide +kernel
theorem dX5_isCracked_8 : decode cX5_isCracked 8 = .ok (.getfield 139, 3) := by decide +kernel
theorem dX5_isCracked_11 : decode cX5_isCracked 11 = .ok (.if_icmp .ge 47, 3) := by decide +kernel
theorem dX5_isCracked_14 : decode cX5_isCracked 14 = .ok (.iload_n 3, 1) := by decide +kernel
theorem dX5_isCracked_15 : decode cX5_isCracked 15 = .ok (.ifCond .ne 31, 3) := by decide +kernel
theorem dX5_isCracked_18 : decode cX5_isCracked 18 = .ok (.aload_n 0, 1) := by decide +kernel
theorem dX5_isCracked_19 : decode cX5_isCracked 19 = .ok (.getfield 34, 3) := by decide +kernel
theorem dX5_isCracked_22 : decode cX5_isCracked 22 = .ok (.iconst 2, 1) := by decide +kernel
theorem dX5_isCracked_23 : decode cX5_isCracked 23 = .ok (.iload 4, 2) := by decide +kernel
theorem dX5_isCracked_25 : decode cX5_isCracked 25 = .ok (.imul, 1) := by decide +kernel
theorem dX5_isCracked_26 : decode cX5_isCracked 26 = .ok (.iaload, 1) := by decide +kernel
theorem dX5_isCracked_27 : decode cX5_isCracked 27 = .ok (.iload_n 1, 1) := by decide +kernel
theorem dX5_isCracked_28 : decode cX5_isCracked 28 = .ok (.if_icmp .ne 22, 3) := by decide +kernel
theorem dX5_isCracked_31 : decode cX5_isCracked 31 = .ok (.aload_n 0, 1) := by decide +kernel
theorem dX5_isCracked_32 : decode cX5_isCracked 32 = .ok (.getfield 34, 3) := by decide +kernel
theorem dX5_isCracked_35 : decode cX5_isCracked 35 = .ok (.iconst 2, 1) := by decide +kernel
theorem dX5_isCracked_36 : decode cX5_isCracked 36 = .ok (.iload 4, 2) := by decide +kernel
theorem dX5_isCracked_38 : decode cX5_isCracked 38 = .ok (.imul, 1) := by decide +kernel
theorem dX5_isCracked_39 : decode cX5_isCracked 39 = .ok (.iconst 1, 1) := by decide +kernel
theorem dX5_isCracked_40 : decode cX5_isCracked 40 = .ok (.iadd, 1) := by decide +kernel
theorem dX5_isCracked_41 : decode cX5_isCracked 41 = .ok (.iaload, 1) := by decide +kernel
theorem dX5_isCracked_42 : decode cX5_isCracked 42 = .ok (.iload_n 2, 1) := by decide +kernel
theorem dX5_isCracked_43 : decode cX5_isCracked 43 = .ok (.if_icmp .ne 7, 3) := by decide +kernel
theorem dX5_isCracked_46 : decode cX5_isCracked 46 = .ok (.iconst 1, 1) := by decide +kernel
theorem dX5_isCracked_47 : decode cX5_isCracked 47 = .ok (.goto 4, 3) := by decide +kernel
theorem dX5_isCracked_50 : decode cX5_isCracked 50 = .ok (.iconst 0, 1) := by decide +kernel
theorem dX5_isCracked_51 : decode cX5_isCracked 51 = .ok (.istore_n 3, 1) := by decide +kernel
theorem dX5_isCracked_52 : decode cX5_isCracked 52 = .ok (.iinc 4 1, 3) := by decide +kernel
theorem dX5_isCracked_55 : decode cX5_isCracked 55 = .ok (.goto (-50), 3) := by decide +kernel
theorem dX5_isCracked_58 : decode cX5_isCracked 58 = .ok (.iload_n 3, 1) := by decide +kernel
theorem dX5_isCracked_59 : decode cX5_isCracked 59 = .ok (.ireturn, 1) := by decide +kernel
theorem dX5_lieSo_0 : decode cX5_lieSo 0 = .ok (.aload_n 0, 1) := by decide +kernel
theorem dX5_lieSo_1 : decode cX5_lieSo 1 = .ok (.getfield 43, 3) := by decide +kernel
theorem dX5_lieSo_4 : decode cX5_lieSo 4 = .ok (.iload_n 2, 1) := by decide +kernel
theorem dX5_lieSo_5 : decode cX5_lieSo 5 = .ok (.iaload, 1) := by decide +kernel
theorem dX5_lieSo_6 : decode cX5_lieSo 6 = .ok (.aload_n 0, 1) := by decide +kernel
theorem dX5_lieSo_7 : decode cX5_lieSo 7 = .ok (.getfield 43, 3) := by decide +kernel
theorem dX5_lieSo_10 : decode cX5_lieSo 10 = .ok (.iload_n 3, 1) := by decide +kernel
theorem dX5_lieSo_11 : decode cX5_lieSo 11 = .ok (.iaload, 1) := by decide +kernel
theorem dX5_lieSo_12 : decode cX5_lieSo 12 = .ok (.isub, 1) := by decide +kernel
theorem dX5_lieSo_13 : decode cX5_lieSo 13 = .ok (.invokestatic 151, 3) := by decide +kernel
theorem dX5_lieSo_16 : decode cX5_lieSo 16 = .ok (.istore 4, 2) := by decide +kernel
theorem dX5_lieSo_18 : decode cX5_lieSo 18 = .ok (.aload_n 0, 1) := by decide +kernel
theorem dX5_lieSo_19 : decode cX5_lieSo 19 = .ok (.getfield 46, 3) := by decide +kernel
theorem dX5_lieSo_22 : decode cX5_lieSo 22 = .ok (.iload_n 2, 1) := by decide +kernel
theorem dX5_lieSo_23 : decode cX5_lieSo 23 = .ok (.iaload, 1) := by decide +kernel
theorem dX5_lieSo_24 : decode cX5_lieSo 24 = .ok (.aload_n 0, 1) := by decide +kernel
theorem dX5_lieSo_25 : decode cX5_lieSo 25 = .ok (.getfield 46, 3) := by decide +kernel
theorem dX5_lieSo_28 : decode cX5_lieSo 28 = .ok (.iload_n 3, 1) := by decide +kernel
theorem dX5_lieSo_29 : decode cX5_lieSo 29 = .ok (.iaload, 1) := by decide +kernel
theorem dX5_lieSo_30 : decode cX5_lieSo 30 = .ok (.isub, 1) := by decide +kernel
theorem dX5_lieSo_31 : decode cX5_lieSo 31 = .ok (.invokestatic 151, 3) := by decide +kernel
theorem dX5_lieSo_34 : decode cX5_lieSo 34 = .ok (.istore 5, 2) := by decide +kernel
theorem dX5_lieSo_36 : decode cX5_lieSo 36 = .ok (.iload_n 1, 1) := by decide +kernel
theorem dX5_lieSo_37 : decode cX5_lieSo 37 = .ok (.tableswitch 89 0 2 #[27, 45, 71], 27) := by decide +kernel
theorem dX5_lieSo_64 : decode cX5_lieSo 64 = .ok (.iload 4, 2) := by decide +kernel
theorem dX5_lieSo_66 : decode cX5_lieSo 66 = .ok (.iconst 1, 1) := by decide +kernel
theorem dX5_lieSo_67 : decode cX5_lieSo 67 = .ok (.if_icmp .gt 13, 3) := by decide +kernel
theorem dX5_lieSo_70 : decode cX5_lieSo 70 = .ok (.iload 5, 2) := by decide +kernel
theorem dX5_lieSo_72 : decode cX5_lieSo 72 = .ok (.iconst 1, 1) := by decide +kernel
theorem dX5_lieSo_73 : decode cX5_lieSo 73 = .ok (.if_icmp .gt 7, 3) := by decide +kernel
theorem dX5_lieSo_76 : decode cX5_lieSo 76 = .ok (.iconst 1, 1) := by decide +kernel
theorem dX5_lieSo_77 : decode cX5_lieSo 77 = .ok (.goto 4, 3) := by decide +kernel
theorem dX5_lieSo_80 : decode cX5_lieSo 80 = .ok (.iconst 0, 1) := by decide +kernel
theorem dX5_lieSo_81 : decode cX5_lieSo 81 = .ok (.ireturn, 1) := by decide +kernel
theorem dX5_lieSo_82 : decode cX5_lieSo 82 = .ok (.iload 4, 2) := by decide +kernel
theorem dX5_lieSo_84 : decode cX5_lieSo 84 = .ok (.ifCond .ne 22, 3) := by decide +kernel
theorem dX5_lieSo_87 : decode cX5_lieSo 87 = .ok (.aload_n 0, 1) := by decide +kernel
theorem dX5_lieSo_88 : decode cX5_lieSo 88 = .ok (.getfield 46, 3) := by decide +kernel
theorem dX5_lieSo_91 : decode cX5_lieSo 91 = .ok (.iload_n 2, 1) := by decide +kernel
theorem dX5_lieSo_92 : decode cX5_lieSo 92 = .ok (.iaload, 1) := by decide +kernel
theorem dX5_lieSo_93 : decode cX5_lieSo 93 = .ok (.aload_n 0, 1) := by decide +kernel
theorem dX5_lieSo_94 : decode cX5_lieSo 94 = .ok (.getfield 46, 3) := by decide +kernel
theorem dX5_lieSo_97 : decode cX5_lieSo 97 = .ok (.iload_n 3, 1) := by decide +kernel
theorem dX5_lieSo_98 : decode cX5_lieSo 98 = .ok (.iaload, 1) := by decide +kernel
theorem dX5_lieSo_99 : decode cX5_lieSo 99 = .ok (.if_icmp .ge 7, 3) := by decide +kernel
theorem dX5_lieSo_102 : decode cX5_lieSo 102 = .ok (.iconst 1, 1) := by decide +kernel
theorem dX5_lieSo_103 : decode cX5_lieSo 103 = .ok (.goto 4, 3) := by decide +kernel
theorem dX5_lieSo_106 : decode cX5_lieSo 106 = .ok (.iconst 0, 1) := by decide +kernel
theorem dX5_lieSo_107 : decode cX5_lieSo 107 = .ok (.ireturn, 1) := by decide +kernel
theorem dX5_lieSo_108 : decode cX5_lieSo 108 = .ok (.iload 4, 2) := by decide +kernel
theorem dX5_lieSo_110 : decode cX5_lieSo 110 = .ok (.iconst 3, 1) := by decide +kernel
theorem dX5_lieSo_111 : decode cX5_lieSo 111 = .ok (.if_icmp .ge 9, 3) := by decide +kernel
theorem dX5_lieSo_114 : decode cX5_lieSo 114 = .ok (.iload 5, 2) := by decide +kernel
theorem dX5_lieSo_116 : decode cX5_lieSo 116 = .ok (.iconst 3, 1) := by decide +kernel
theorem dX5_lieSo_117 : decode cX5_lieSo 117 = .ok (.if_icmp .lt 7, 3) := by decide +kernel
theorem dX5_lieSo_120 : decode cX5_lieSo 120 = .ok (.iconst 1, 1) := by decide +kernel
theorem dX5_lieSo_121 : decode cX5_lieSo 121 = .ok (.goto 4, 3) := by decide +kernel
theorem dX5_lieSo_124 : decode cX5_lieSo 124 = .ok (.iconst 0, 1) := by decide +kernel
theorem dX5_lieSo_125 : decode cX5_lieSo 125 = .ok (.ireturn, 1) := by decide +kernel
theorem dX5_lieSo_126 : decode cX5_lieSo 126 = .ok (.iconst 1, 1) := by decide +kernel
theorem dX5_lieSo_127 : decode cX5_lieSo 127 = .ok (.ireturn, 1) := by decide +kernel
theorem dX5_pairs_0 : decode cX5_pairs 0 = .ok (.iconst 0, 1) := by decide +kernel
theorem dX5_pairs_1 : decode cX5_pairs 1 = .ok (.istore_n 2, 1) := by decide +kernel
theorem dX5_pairs_2 : decode cX5_pairs 2 = .ok (.iload_n 2, 1) := by decide +kernel
theorem dX5_pairs_3 : decode cX5_pairs 3 = .ok (.aload_n 0, 1) := by decide +kernel
theorem dX5_pairs_4 : decode cX5_pairs 4 = .ok (.getfield 154, 3) := by decide +kernel
theorem dX5_pairs_7 : decode cX5_pairs 7 = .ok (.if_icmp .ge 135, 3) := by decide +kernel
theorem dX5_pairs_10 : decode cX5_pairs 10 = .ok (.iconst 0, 1) := by decide +kernel
theorem dX5_pairs_11 : decode cX5_pairs 11 = .ok (.istore_n 3, 1) := by decide +kernel
theorem dX5_pairs_12 : decode cX5_pairs 12 = .ok (.iconst 0, 1) := by decide +kernel
theorem dX5_pairs_13 : decode cX5_pairs 13 = .ok (.istore 4, 2) := by decide +kernel
theorem dX5_pairs_15 : decode cX5_pairs 15 = .ok (.iload 4, 2) := by decide +kernel
theorem dX5_pairs_17 : decode cX5_pairs 17 = .ok (.aload_n 0, 1) := by decide +kernel
theorem dX5_pairs_18 : decode cX5_pairs 18 = .ok (.getfield 154, 3) := by decide +kernel
theorem dX5_pairs_21 : decode cX5_pairs 21 = .ok (.if_icmp .ge 103, 3) := by decide +kernel
theorem dX5_pairs_24 : decode cX5_pairs 24 = .ok (.iload_n 2, 1) := by decide +kernel
theorem dX5_pairs_25 : decode cX5_pairs 25 = .ok (.iload 4, 2) := by decide +kernel
theorem dX5_pairs_27 : decode cX5_pairs 27 = .ok (.if_icmp .eq 52, 3) := by decide +kernel
theorem dX5_pairs_30 : decode cX5_pairs 30 = .ok (.aload_n 0, 1) := by decide +kernel
theorem dX5_pairs_31 : decode cX5_pairs 31 = .ok (.getfield 28, 3) := by decide +kernel
theorem dX5_pairs_34 : decode cX5_pairs 34 = .ok (.iconst 3, 1) := by decide +kernel
theorem dX5_pairs_35 : decode cX5_pairs 35 = .ok (.iload_n 2, 1) := by decide +kernel
theorem dX5_pairs_36 : decode cX5_pairs 36 = .ok (.imul, 1) := by decide +kernel
theorem dX5_pairs_37 : decode cX5_pairs 37 = .ok (.iconst 2, 1) := by decide +kernel
theorem dX5_pairs_38 : decode cX5_pairs 38 = .ok (.iadd, 1) := by decide +kernel
theorem dX5_pairs_39 : decode cX5_pairs 39 = .ok (.iaload, 1) := by decide +kernel
theorem dX5_pairs_40 : decode cX5_pairs 40 = .ok (.aload_n 0, 1) := by decide +kernel
theorem dX5_pairs_41 : decode cX5_pairs 41 = .ok (.getfield 31, 3) := by decide +kernel
theorem dX5_pairs_44 : decode cX5_pairs 44 = .ok (.iconst 5, 1) := by decide +kernel
theorem dX5_pairs_45 : decode cX5_pairs 45 = .ok (.iload_n 1, 1) := by decide +kernel
theorem dX5_pairs_46 : decode cX5_pairs 46 = .ok (.imul, 1) := by decide +kernel
theorem dX5_pairs_47 : decode cX5_pairs 47 = .ok (.iaload, 1) := by decide +kernel
theorem dX5_pairs_48 : decode cX5_pairs 48 = .ok (.if_icmp .ne 31, 3) := by decide +kernel
theorem dX5_pairs_51 : decode cX5_pairs 51 = .ok (.aload_n 0, 1) := by decide +kernel
theorem dX5_pairs_52 : decode cX5_pairs 52 = .ok (.getfield 28, 3) := by decide +kernel
theorem dX5_pairs_55 : decode cX5_pairs 55 = .ok (.iconst 3, 1) := by decide +kernel
theorem dX5_pairs_56 : decode cX5_pairs 56 = .ok (.iload 4, 2) := by decide +kernel
theorem dX5_pairs_58 : decode cX5_pairs 58 = .ok (.imul, 1) := by decide +kernel
theorem dX5_pairs_59 : decode cX5_pairs 59 = .ok (.iconst 2, 1) := by decide +kernel
theorem dX5_pairs_60 : decode cX5_pairs 60 = .ok (.iadd, 1) := by decide +kernel
theorem dX5_pairs_61 : decode cX5_pairs 61 = .ok (.iaload, 1) := by decide +kernel
theorem dX5_pairs_62 : decode cX5_pairs 62 = .ok (.aload_n 0, 1) := by decide +kernel
theorem dX5_pairs_63 : decode cX5_pairs 63 = .ok (.getfield 31, 3) := by decide +kernel
theorem dX5_pairs_66 : decode cX5_pairs 66 = .ok (.iconst 5, 1) := by decide +kernel
theorem dX5_pairs_67 : decode cX5_pairs 67 = .ok (.iload_n 1, 1) := by decide +kernel
theorem dX5_pairs_68 : decode cX5_pairs 68 = .ok (.imul, 1) := by decide +kernel
theorem dX5_pairs_69 : decode cX5_pairs 69 = .ok (.iconst 2, 1) := by decide +kernel
theorem dX5_pairs_70 : decode cX5_pairs 70 = .ok (.iadd, 1) := by decide +kernel
theorem dX5_pairs_71 : decode cX5_pairs 71 = .ok (.iaload, 1) := by decide +kernel
theorem dX5_pairs_72 : decode cX5_pairs 72 = .ok (.if_icmp .ne 7, 3) := by decide +kernel
theorem dX5_pairs_75 : decode cX5_pairs 75 = .ok (.iconst 1, 1) := by decide +kernel
theorem dX5_pairs_76 : decode cX5_pairs 76 = .ok (.goto 4, 3) := by decide +kernel
theorem dX5_pairs_79 : decode cX5_pairs 79 = .ok (.iconst 0, 1) := by decide +kernel
theorem dX5_pairs_80 : decode cX5_pairs 80 = .ok (.istore 5, 2) := by decide +kernel
theorem dX5_pairs_82 : decode cX5_pairs 82 = .ok (.iload_n 3, 1) := by decide +kernel
theorem dX5_pairs_83 : decode cX5_pairs 83 = .ok (.iload 5, 2) := by decide +kernel
theorem dX5_pairs_85 : decode cX5_pairs 85 = .ok (.ifCond .eq 30, 3) := by decide +kernel
theorem dX5_pairs_88 : decode cX5_pairs 88 = .ok (.aload_n 0, 1) := by decide +kernel
theorem dX5_pairs_89 : decode cX5_pairs 89 = .ok (.aload_n 0, 1) := by decide +kernel
theorem dX5_pairs_90 : decode cX5_pairs 90 = .ok (.getfield 31, 3) := by decide +kernel
theorem dX5_pairs_93 : decode cX5_pairs 93 = .ok (.iconst 5, 1) := by decide +kernel
theorem dX5_pairs_94 : decode cX5_pairs 94 = .ok (.iload_n 1, 1) := by decide +kernel
theorem dX5_pairs_95 : decode cX5_pairs 95 = .ok (.imul, 1) := by decide +kernel
theorem dX5_pairs_96 : decode cX5_pairs 96 = .ok (.iconst 1, 1) := by decide +kernel
theorem dX5_pairs_97 : decode cX5_pairs 97 = .ok (.iadd, 1) := by decide +kernel
theorem dX5_pairs_98 : decode cX5_pairs 98 = .ok (.iaload, 1) := by decide +kernel
theorem dX5_pairs_99 : decode cX5_pairs 99 = .ok (.iload_n 2, 1) := by decide +kernel
theorem dX5_pairs_100 : decode cX5_pairs 100 = .ok (.iload 4, 2) := by decide +kernel
theorem dX5_pairs_102 : decode cX5_pairs 102 = .ok (.invokevirtual 157, 3) := by decide +kernel
theorem dX5_pairs_105 : decode cX5_pairs 105 = .ok (.ifCond .eq 10, 3) := by decide +kernel
theorem dX5_pairs_108 : decode cX5_pairs 108 = .ok (.iconst 1, 1) := by decide +kernel
theorem dX5_pairs_109 : decode cX5_pairs 109 = .ok (.iload 4, 2) := by decide +kernel
theorem dX5_pairs_111 : decode cX5_pairs 111 = .ok (.ishl, 1) := by decide +kernel
theorem dX5_pairs_112 : decode cX5_pairs 112 = .ok (.goto 4, 3) := by decide +kernel
theorem dX5_pairs_115 : decode cX5_pairs 115 = .ok (.iconst 0, 1) := by decide +kernel
theorem dX5_pairs_116 : decode cX5_pairs 116 = .ok (.ior, 1) := by decide +kernel
theorem dX5_pairs_117 : decode cX5_pairs 117 = .ok (.istore_n 3, 1) := by decide +kernel
theorem dX5_pairs_118 : decode cX5_pairs 118 = .ok (.iinc 4 1, 3) := by decide +kernel
theorem dX5_pairs_121 : decode cX5_pairs 121 = .ok (.goto (-106), 3) := by decide +kernel
theorem dX5_pairs_124 : decode cX5_pairs 124 = .ok (.aload_n 0, 1) := by decide +kernel
theorem dX5_pairs_125 : decode cX5_pairs 125 = .ok (.getfield 49, 3) := by decide +kernel
theorem dX5_pairs_128 : decode cX5_pairs 128 = .ok (.bipush 13, 2) := by decide +kernel
theorem dX5_pairs_130 : decode cX5_pairs 130 = .ok (.iload_n 1, 1) := by decide +kernel
theorem dX5_pairs_131 : decode cX5_pairs 131 = .ok (.imul, 1) := by decide +kernel
theorem dX5_pairs_132 : decode cX5_pairs 132 = .ok (.iload_n 2, 1) := by decide +kernel
theorem dX5_pairs_133 : decode cX5_pairs 133 = .ok (.iadd, 1) := by decide +kernel
theorem dX5_pairs_134 : decode cX5_pairs 134 = .ok (.iload_n 3, 1) := by decide +kernel
theorem dX5_pairs_135 : decode cX5_pairs 135 = .ok (.iastore, 1) := by decide +kernel
theorem dX5_pairs_136 : decode cX5_pairs 136 = .ok (.iinc 2 1, 3) := by decide +kernel
theorem dX5_pairs_139 : decode cX5_pairs 139 = .ok (.goto (-137), 3) := by decide +kernel
theorem dX5_pairs_142 : decode cX5_pairs 142 = .ok (.return_, 1) := by decide +kernel
theorem dX5_laysOut_0 : decode cX5_laysOut 0 = .ok (.aload_n 0, 1) := by decide +kernel
theorem dX5_laysOut_1 : decode cX5_laysOut 1 = .ok (.iconst 0, 1) := by decide +kernel
theorem dX5_laysOut_2 : decode cX5_laysOut 2 = .ok (.putfield 161, 3) := by decide +kernel
theorem dX5_laysOut_5 : decode cX5_laysOut 5 = .ok (.iconst 0, 1) := by decide +kernel
theorem dX5_laysOut_6 : decode cX5_laysOut 6 = .ok (.istore_n 1, 1) := by decide +kernel
theorem dX5_laysOut_7 : decode cX5_laysOut 7 = .ok (.iload_n 1, 1) := by decide +kernel
theorem dX5_laysOut_8 : decode cX5_laysOut 8 = .ok (.aload_n 0, 1) := by decide +kernel
theorem dX5_laysOut_9 : decode cX5_laysOut 9 = .ok (.getfield 154, 3) := by decide +kernel
theorem dX5_laysOut_12 : decode cX5_laysOut 12 = .ok (.if_icmp .ge 44, 3) := by decide +kernel
theorem dX5_laysOut_15 : decode cX5_laysOut 15 = .ok (.aload_n 0, 1) := by decide +kernel
theorem dX5_laysOut_16 : decode cX5_laysOut 16 = .ok (.dup, 1) := by decide +kernel
theorem dX5_laysOut_17 : decode cX5_laysOut 17 = .ok (.getfield 161, 3) := by decide +kernel
theorem dX5_laysOut_20 : decode cX5_laysOut 20 = .ok (.aload_n 0, 1) := by decide +kernel
theorem dX5_laysOut_21 : decode cX5_laysOut 21 = .ok (.aload_n 0, 1) := by decide +kernel
theorem dX5_laysOut_22 : decode cX5_laysOut 22 = .ok (.getfield 43, 3) := by decide +kernel
theorem dX5_laysOut_25 : decode cX5_laysOut 25 = .ok (.iload_n 1, 1) := by decide +kernel
theorem dX5_laysOut_26 : decode cX5_laysOut 26 = .ok (.iaload, 1) := by decide +kernel
theorem dX5_laysOut_27 : decode cX5_laysOut 27 = .ok (.aload_n 0, 1) := by decide +kernel
theorem dX5_laysOut_28 : decode cX5_laysOut 28 = .ok (.getfield 46, 3) := by decide +kernel
theorem dX5_laysOut_31 : decode cX5_laysOut 31 = .ok (.iload_n 1, 1) := by decide +kernel
theorem dX5_laysOut_32 : decode cX5_laysOut 32 = .ok (.iaload, 1) := by decide +kernel
theorem dX5_laysOut_33 : decode cX5_laysOut 33 = .ok (.invokevirtual 164, 3) := by decide +kernel
theorem dX5_laysOut_36 : decode cX5_laysOut 36 = .ok (.ifCond .eq 7, 3) := by decide +kernel
theorem dX5_laysOut_39 : decode cX5_laysOut 39 = .ok (.iconst 0, 1) := by decide +kernel
theorem dX5_laysOut_40 : decode cX5_laysOut 40 = .ok (.goto 6, 3) := by decide +kernel
theorem dX5_laysOut_43 : decode cX5_laysOut 43 = .ok (.iconst 1, 1) := by decide +kernel
theorem dX5_laysOut_44 : decode cX5_laysOut 44 = .ok (.iload_n 1, 1) := by decide +kernel
theorem dX5_laysOut_45 : decode cX5_laysOut 45 = .ok (.ishl, 1) := by decide +kernel
theorem dX5_laysOut_46 : decode cX5_laysOut 46 = .ok (.ior, 1) := by decide +kernel
theorem dX5_laysOut_47 : decode cX5_laysOut 47 = .ok (.putfield 161, 3) := by decide +kernel
theorem dX5_laysOut_50 : decode cX5_laysOut 50 = .ok (.iinc 1 1, 3) := by decide +kernel
theorem dX5_laysOut_53 : decode cX5_laysOut 53 = .ok (.goto (-46), 3) := by decide +kernel
theorem dX5_laysOut_56 : decode cX5_laysOut 56 = .ok (.iconst 0, 1) := by decide +kernel
theorem dX5_laysOut_57 : decode cX5_laysOut 57 = .ok (.istore_n 1, 1) := by decide +kernel
theorem dX5_laysOut_58 : decode cX5_laysOut 58 = .ok (.iload_n 1, 1) := by decide +kernel
theorem dX5_laysOut_59 : decode cX5_laysOut 59 = .ok (.aload_n 0, 1) := by decide +kernel
theorem dX5_laysOut_60 : decode cX5_laysOut 60 = .ok (.getfield 106, 3) := by decide +kernel
theorem dX5_laysOut_63 : decode cX5_laysOut 63 = .ok (.if_icmp .ge 14, 3) := by decide +kernel
theorem dX5_laysOut_66 : decode cX5_laysOut 66 = .ok (.aload_n 0, 1) := by decide +kernel
theorem dX5_laysOut_67 : decode cX5_laysOut 67 = .ok (.iload_n 1, 1) := by decide +kernel
theorem dX5_laysOut_68 : decode cX5_laysOut 68 = .ok (.invokevirtual 168, 3) := by decide +kernel
theorem dX5_laysOut_71 : decode cX5_laysOut 71 = .ok (.iinc 1 1, 3) := by decide +kernel
theorem dX5_laysOut_74 : decode cX5_laysOut 74 = .ok (.goto (-16), 3) := by decide +kernel
theorem dX5_laysOut_77 : decode cX5_laysOut 77 = .ok (.return_, 1) := by decide +kernel
theorem dX5_turnsCup_0 : decode cX5_turnsCup 0 = .ok (.aload_n 0, 1) := by decide +kernel
theorem dX5_turnsCup_1 : decode cX5_turnsCup 1 = .ok (.aload_n 0, 1) := by decide +kernel
theorem dX5_turnsCup_2 : decode cX5_turnsCup 2 = .ok (.getfield 103, 3) := by decide +kernel
theorem dX5_turnsCup_5 : decode cX5_turnsCup 5 = .ok (.putfield 154, 3) := by decide +kernel
theorem dX5_turnsCup_8 : decode cX5_turnsCup 8 = .ok (.iconst 0, 1) := by decide +kernel
theorem dX5_turnsCup_9 : decode cX5_turnsCup 9 = .ok (.istore_n 2, 1) := by decide +kernel
theorem dX5_turnsCup_10 : decode cX5_turnsCup 10 = .ok (.iload_n 2, 1) := by decide +kernel
theorem dX5_turnsCup_11 : decode cX5_turnsCup 11 = .ok (.aload_n 0, 1) := by decide +kernel
theorem dX5_turnsCup_12 : decode cX5_turnsCup 12 = .ok (.getfield 103, 3) := by decide +kernel
theorem dX5_turnsCup_15 : decode cX5_turnsCup 15 = .ok (.if_icmp .ge 15, 3) := by decide +kernel
theorem dX5_turnsCup_18 : decode cX5_turnsCup 18 = .ok (.aload_n 0, 1) := by decide +kernel
theorem dX5_turnsCup_19 : decode cX5_turnsCup 19 = .ok (.iload_n 2, 1) := by decide +kernel
theorem dX5_turnsCup_20 : decode cX5_turnsCup 20 = .ok (.iload_n 1, 1) := by decide +kernel
theorem dX5_turnsCup_21 : decode cX5_turnsCup 21 = .ok (.invokevirtual 171, 3) := by decide +kernel
theorem dX5_turnsCup_24 : decode cX5_turnsCup 24 = .ok (.iinc 2 1, 3) := by decide +kernel
theorem dX5_turnsCup_27 : decode cX5_turnsCup 27 = .ok (.goto (-17), 3) := by decide +kernel
theorem dX5_turnsCup_30 : decode cX5_turnsCup 30 = .ok (.aload_n 0, 1) := by decide +kernel
theorem dX5_turnsCup_31 : decode cX5_turnsCup 31 = .ok (.invokevirtual 175, 3) := by decide +kernel
theorem dX5_turnsCup_34 : decode cX5_turnsCup 34 = .ok (.return_, 1) := by decide +kernel
theorem dX5_applies_0 : decode cX5_applies 0 = .ok (.iconst 0, 1) := by decide +kernel
theorem dX5_applies_1 : decode cX5_applies 1 = .ok (.istore_n 3, 1) := by decide +kernel
theorem dX5_applies_2 : decode cX5_applies 2 = .ok (.iconst 0, 1) := by decide +kernel
theorem dX5_applies_3 : decode cX5_applies 3 = .ok (.istore 4, 2) := by decide +kernel
theorem dX5_applies_5 : decode cX5_applies 5 = .ok (.iload 4, 2) := by decide +kernel
theorem dX5_applies_7 : decode cX5_applies 7 = .ok (.aload_n 0, 1) := by decide +kernel
theorem dX5_applies_8 : decode cX5_applies 8 = .ok (.getfield 154, 3) := by decide +kernel
theorem dX5_applies_11 : decode cX5_applies 11 = .ok (.if_icmp .ge 45, 3) := by decide +kernel
theorem dX5_applies_14 : decode cX5_applies 14 = .ok (.iload_n 3, 1) := by decide +kernel
theorem dX5_applies_15 : decode cX5_applies 15 = .ok (.ifCond .ne 41, 3) := by decide +kernel
theorem dX5_applies_18 : decode cX5_applies 18 = .ok (.iload_n 2, 1) := by decide +kernel
theorem dX5_applies_19 : decode cX5_applies 19 = .ok (.iload 4, 2) := by decide +kernel
theorem dX5_applies_21 : decode cX5_applies 21 = .ok (.invokestatic 178, 3) := by decide +kernel
theorem dX5_applies_24 : decode cX5_applies 24 = .ok (.ifCond .eq 24, 3) := by decide +kernel
theorem dX5_applies_27 : decode cX5_applies 27 = .ok (.aload_n 0, 1) := by decide +kernel
theorem dX5_applies_28 : decode cX5_applies 28 = .ok (.getfield 49, 3) := by decide +kernel
theorem dX5_applies_31 : decode cX5_applies 31 = .ok (.bipush 13, 2) := by decide +kernel
theorem dX5_applies_33 : decode cX5_applies 33 = .ok (.iload_n 1, 1) := by decide +kernel
theorem dX5_applies_34 : decode cX5_applies 34 = .ok (.imul, 1) := by decide +kernel
theorem dX5_applies_35 : decode cX5_applies 35 = .ok (.iload 4, 2) := by decide +kernel
theorem dX5_applies_37 : decode cX5_applies 37 = .ok (.iadd, 1) := by decide +kernel
theorem dX5_applies_38 : decode cX5_applies 38 = .ok (.iaload, 1) := by decide +kernel
theorem dX5_applies_39 : decode cX5_applies 39 = .ok (.iload_n 2, 1) := by decide +kernel
theorem dX5_applies_40 : decode cX5_applies 40 = .ok (.iand, 1) := by decide +kernel
theorem dX5_applies_41 : decode cX5_applies 41 = .ok (.ifCond .eq 7, 3) := by decide +kernel
theorem dX5_applies_44 : decode cX5_applies 44 = .ok (.iconst 1, 1) := by decide +kernel
theorem dX5_applies_45 : decode cX5_applies 45 = .ok (.goto 4, 3) := by decide +kernel
theorem dX5_applies_48 : decode cX5_applies 48 = .ok (.iconst 0, 1) := by decide +kernel
theorem dX5_applies_49 : decode cX5_applies 49 = .ok (.istore_n 3, 1) := by decide +kernel
theorem dX5_applies_50 : decode cX5_applies 50 = .ok (.iinc 4 1, 3) := by decide +kernel
theorem dX5_applies_53 : decode cX5_applies 53 = .ok (.goto (-48), 3) := by decide +kernel
theorem dX5_applies_56 : decode cX5_applies 56 = .ok (.iload_n 3, 1) := by decide +kernel
theorem dX5_applies_57 : decode cX5_applies 57 = .ok (.ireturn, 1) := by decide +kernel
theorem dX5_readBy_0 : decode cX5_readBy 0 = .ok (.iconst 0, 1) := by decide +kernel
theorem dX5_readBy_1 : decode cX5_readBy 1 = .ok (.istore_n 2, 1) := by decide +kernel
theorem dX5_readBy_2 : decode cX5_readBy 2 = .ok (.iconst 0, 1) := by decide +kernel
theorem dX5_readBy_3 : decode cX5_readBy 3 = .ok (.istore_n 3, 1) := by decide +kernel
theorem dX5_readBy_4 : decode cX5_readBy 4 = .ok (.iload_n 3, 1) := by decide +kernel
theorem dX5_readBy_5 : decode cX5_readBy 5 = .ok (.aload_n 0, 1) := by decide +kernel
theorem dX5_readBy_6 : decode cX5_readBy 6 = .ok (.getfield 106, 3) := by decide +kernel
theorem dX5_readBy_9 : decode cX5_readBy 9 = .ok (.if_icmp .ge 104, 3) := by decide +kernel
theorem dX5_readBy_12 : decode cX5_readBy 12 = .ok (.aload_n 0, 1) := by decide +kernel
theorem dX5_readBy_13 : decode cX5_readBy 13 = .ok (.getfield 181, 3) := by decide +kernel
theorem dX5_readBy_16 : decode cX5_readBy 16 = .ok (.iload_n 3, 1) := by decide +kernel
theorem dX5_readBy_17 : decode cX5_readBy 17 = .ok (.invokestatic 178, 3) := by decide +kernel
theorem dX5_readBy_20 : decode cX5_readBy 20 = .ok (.ifCond .ne 87, 3) := by decide +kernel
theorem dX5_readBy_23 : decode cX5_readBy 23 = .ok (.aload_n 0, 1) := by decide +kernel
theorem dX5_readBy_24 : decode cX5_readBy 24 = .ok (.iload_n 3, 1) := by decide +kernel
theorem dX5_readBy_25 : decode cX5_readBy 25 = .ok (.iload_n 1, 1) := by decide +kernel
theorem dX5_readBy_26 : decode cX5_readBy 26 = .ok (.invokevirtual 184, 3) := by decide +kernel
theorem dX5_readBy_29 : decode cX5_readBy 29 = .ok (.ifCond .eq 78, 3) := by decide +kernel
theorem dX5_readBy_32 : decode cX5_readBy 32 = .ok (.iconst 1, 1) := by decide +kernel
theorem dX5_readBy_33 : decode cX5_readBy 33 = .ok (.aload_n 0, 1) := by decide +kernel
theorem dX5_readBy_34 : decode cX5_readBy 34 = .ok (.getfield 31, 3) := by decide +kernel
theorem dX5_readBy_37 : decode cX5_readBy 37 = .ok (.iconst 5, 1) := by decide +kernel
theorem dX5_readBy_38 : decode cX5_readBy 38 = .ok (.iload_n 3, 1) := by decide +kernel
theorem dX5_readBy_39 : decode cX5_readBy 39 = .ok (.imul, 1) := by decide +kernel
theorem dX5_readBy_40 : decode cX5_readBy 40 = .ok (.iconst 4, 1) := by decide +kernel
theorem dX5_readBy_41 : decode cX5_readBy 41 = .ok (.iadd, 1) := by decide +kernel
theorem dX5_readBy_42 : decode cX5_readBy 42 = .ok (.iaload, 1) := by decide +kernel
theorem dX5_readBy_43 : decode cX5_readBy 43 = .ok (.ishl, 1) := by decide +kernel
theorem dX5_readBy_44 : decode cX5_readBy 44 = .ok (.istore 4, 2) := by decide +kernel
theorem dX5_readBy_46 : decode cX5_readBy 46 = .ok (.aload_n 0, 1) := by decide +kernel
theorem dX5_readBy_47 : decode cX5_readBy 47 = .ok (.getfield 31, 3) := by decide +kernel
theorem dX5_readBy_50 : decode cX5_readBy 50 = .ok (.iconst 5, 1) := by decide +kernel
theorem dX5_readBy_51 : decode cX5_readBy 51 = .ok (.iload_n 3, 1) := by decide +kernel
theorem dX5_readBy_52 : decode cX5_readBy 52 = .ok (.imul, 1) := by decide +kernel
theorem dX5_readBy_53 : decode cX5_readBy 53 = .ok (.iconst 3, 1) := by decide +kernel
theorem dX5_readBy_54 : decode cX5_readBy 54 = .ok (.iadd, 1) := by decide +kernel
theorem dX5_readBy_55 : decode cX5_readBy 55 = .ok (.iaload, 1) := by decide +kernel
theorem dX5_readBy_56 : decode cX5_readBy 56 = .ok (.iconst 1, 1) := by decide +kernel
theorem dX5_readBy_57 : decode cX5_readBy 57 = .ok (.if_icmp .ne 7, 3) := by decide +kernel
theorem dX5_readBy_60 : decode cX5_readBy 60 = .ok (.iconst 1, 1) := by decide +kernel
theorem dX5_readBy_61 : decode cX5_readBy 61 = .ok (.goto 4, 3) := by decide +kernel
theorem dX5_readBy_64 : decode cX5_readBy 64 = .ok (.iconst 0, 1) := by decide +kernel
theorem dX5_readBy_65 : decode cX5_readBy 65 = .ok (.iload_n 3, 1) := by decide +kernel
theorem dX5_readBy_66 : decode cX5_readBy 66 = .ok (.aload_n 0, 1) := by decide +kernel
theorem dX5_readBy_67 : decode cX5_readBy 67 = .ok (.getfield 55, 3) := by decide +kernel
theorem dX5_readBy_70 : decode cX5_readBy 70 = .ok (.if_icmp .ne 7, 3) := by decide +kernel
theorem dX5_readBy_73 : decode cX5_readBy 73 = .ok (.iconst 1, 1) := by decide +kernel
theorem dX5_readBy_74 : decode cX5_readBy 74 = .ok (.goto 4, 3) := by decide +kernel
theorem dX5_readBy_77 : decode cX5_readBy 77 = .ok (.iconst 0, 1) := by decide +kernel
theorem dX5_readBy_78 : decode cX5_readBy 78 = .ok (.if_icmp .eq 7, 3) := by decide +kernel
theorem dX5_readBy_81 : decode cX5_readBy 81 = .ok (.iconst 1, 1) := by decide +kernel
theorem dX5_readBy_82 : decode cX5_readBy 82 = .ok (.goto 4, 3) := by decide +kernel
theorem dX5_readBy_85 : decode cX5_readBy 85 = .ok (.iconst 0, 1) := by decide +kernel
theorem dX5_readBy_86 : decode cX5_readBy 86 = .ok (.istore 5, 2) := by decide +kernel
theorem dX5_readBy_88 : decode cX5_readBy 88 = .ok (.iload 5, 2) := by decide +kernel
theorem dX5_readBy_90 : decode cX5_readBy 90 = .ok (.ifCond .eq 10, 3) := by decide +kernel
theorem dX5_readBy_93 : decode cX5_readBy 93 = .ok (.iload_n 2, 1) := by decide +kernel
theorem dX5_readBy_94 : decode cX5_readBy 94 = .ok (.iload 4, 2) := by decide +kernel
theorem dX5_readBy_96 : decode cX5_readBy 96 = .ok (.ior, 1) := by decide +kernel
theorem dX5_readBy_97 : decode cX5_readBy 97 = .ok (.goto 9, 3) := by decide +kernel
theorem dX5_readBy_100 : decode cX5_readBy 100 = .ok (.iload_n 2, 1) := by decide +kernel
theorem dX5_readBy_101 : decode cX5_readBy 101 = .ok (.iload 4, 2) := by decide +kernel
theorem dX5_readBy_103 : decode cX5_readBy 103 = .ok (.iconst (-1), 1) := by decide +kernel
theorem dX5_readBy_104 : decode cX5_readBy 104 = .ok (.ixor, 1) := by decide +kernel
theorem dX5_readBy_105 : decode cX5_readBy 105 = .ok (.iand, 1) := by decide +kernel
theorem dX5_readBy_106 : decode cX5_readBy 106 = .ok (.istore_n 2, 1) := by decide +kernel
theorem dX5_readBy_107 : decode cX5_readBy 107 = .ok (.iinc 3 1, 3) := by decide +kernel
theorem dX5_readBy_110 : decode cX5_readBy 110 = .ok (.goto (-106), 3) := by decide +kernel
theorem dX5_readBy_113 : decode cX5_readBy 113 = .ok (.iload_n 2, 1) := by decide +kernel
theorem dX5_readBy_114 : decode cX5_readBy 114 = .ok (.ireturn, 1) := by decide +kernel
theorem dX5_readNow_0 : decode cX5_readNow 0 = .ok (.aload_n 0, 1) := by decide +kernel
theorem dX5_readNow_1 : decode cX5_readNow 1 = .ok (.iload_n 1, 1) := by decide +kernel
theorem dX5_readNow_2 : decode cX5_readNow 2 = .ok (.invokevirtual 187, 3) := by decide +kernel
theorem dX5_readNow_5 : decode cX5_readNow 5 = .ok (.aload_n 0, 1) := by decide +kernel
theorem dX5_readNow_6 : decode cX5_readNow 6 = .ok (.aload_n 0, 1) := by decide +kernel
theorem dX5_readNow_7 : decode cX5_readNow 7 = .ok (.getfield 161, 3) := by decide +kernel
theorem dX5_readNow_10 : decode cX5_readNow 10 = .ok (.invokevirtual 190, 3) := by decide +kernel
theorem dX5_readNow_13 : decode cX5_readNow 13 = .ok (.ireturn, 1) := by decide +kernel
theorem dX5_lies_0 : decode cX5_lies 0 = .ok (.aload_n 0, 1) := by decide +kernel
theorem dX5_lies_1 : decode cX5_lies 1 = .ok (.invokevirtual 129, 3) := by decide +kernel
theorem dX5_lies_4 : decode cX5_lies 4 = .ok (.iload_n 1, 1) := by decide +kernel
theorem dX5_lies_5 : decode cX5_lies 5 = .ok (.invokestatic 193, 3) := by decide +kernel
theorem dX5_lies_8 : decode cX5_lies 8 = .ok (.ifCond .eq 18, 3) := by decide +kernel
theorem dX5_lies_11 : decode cX5_lies 11 = .ok (.aload_n 0, 1) := by decide +kernel
theorem dX5_lies_12 : decode cX5_lies 12 = .ok (.iload_n 2, 1) := by decide +kernel
theorem dX5_lies_13 : decode cX5_lies 13 = .ok (.invokevirtual 132, 3) := by decide +kernel
theorem dX5_lies_16 : decode cX5_lies 16 = .ok (.ifCond .eq 10, 3) := by decide +kernel
theorem dX5_lies_19 : decode cX5_lies 19 = .ok (.iload_n 3, 1) := by decide +kernel
theorem dX5_lies_20 : decode cX5_lies 20 = .ok (.invokestatic 89, 3) := by decide +kernel
theorem dX5_lies_23 : decode cX5_lies 23 = .ok (.ifCond .ne 6, 3) := by decide +kernel
theorem dX5_lies_26 : decode cX5_lies 26 = .ok (.bipush (-2), 2) := by decide +kernel
theorem dX5_lies_28 : decode cX5_lies 28 = .ok (.ireturn, 1) := by decide +kernel
theorem dX5_lies_29 : decode cX5_lies 29 = .ok (.aload_n 0, 1) := by decide +kernel
theorem dX5_lies_30 : decode cX5_lies 30 = .ok (.iload_n 2, 1) := by decide +kernel
theorem dX5_lies_31 : decode cX5_lies 31 = .ok (.iload_n 1, 1) := by decide +kernel
theorem dX5_lies_32 : decode cX5_lies 32 = .ok (.invokevirtual 171, 3) := by decide +kernel
theorem dX5_lies_35 : decode cX5_lies 35 = .ok (.iload_n 3, 1) := by decide +kernel
theorem dX5_lies_36 : decode cX5_lies 36 = .ok (.ifCond .ne 12, 3) := by decide +kernel
theorem dX5_lies_39 : decode cX5_lies 39 = .ok (.aload_n 0, 1) := by decide +kernel
theorem dX5_lies_40 : decode cX5_lies 40 = .ok (.getfield 43, 3) := by decide +kernel
theorem dX5_lies_43 : decode cX5_lies 43 = .ok (.iload_n 2, 1) := by decide +kernel
theorem dX5_lies_44 : decode cX5_lies 44 = .ok (.iaload, 1) := by decide +kernel
theorem dX5_lies_45 : decode cX5_lies 45 = .ok (.goto 9, 3) := by decide +kernel
theorem dX5_lies_48 : decode cX5_lies 48 = .ok (.aload_n 0, 1) := by decide +kernel
theorem dX5_lies_49 : decode cX5_lies 49 = .ok (.getfield 46, 3) := by decide +kernel
theorem dX5_lies_52 : decode cX5_lies 52 = .ok (.iload_n 2, 1) := by decide +kernel
theorem dX5_lies_53 : decode cX5_lies 53 = .ok (.iaload, 1) := by decide +kernel
theorem dX5_lies_54 : decode cX5_lies 54 = .ok (.ireturn, 1) := by decide +kernel
theorem dX5_appliesNow_0 : decode cX5_appliesNow 0 = .ok (.iconst 0, 1) := by decide +kernel
theorem dX5_appliesNow_1 : decode cX5_appliesNow 1 = .ok (.istore_n 1, 1) := by decide +kernel
theorem dX5_appliesNow_2 : decode cX5_appliesNow 2 = .ok (.iconst 0, 1) := by decide +kernel
theorem dX5_appliesNow_3 : decode cX5_appliesNow 3 = .ok (.istore_n 2, 1) := by decide +kernel
theorem dX5_appliesNow_4 : decode cX5_appliesNow 4 = .ok (.iload_n 2, 1) := by decide +kernel
theorem dX5_appliesNow_5 : decode cX5_appliesNow 5 = .ok (.aload_n 0, 1) := by decide +kernel
theorem dX5_appliesNow_6 : decode cX5_appliesNow 6 = .ok (.getfield 106, 3) := by decide +kernel
theorem dX5_appliesNow_9 : decode cX5_appliesNow 9 = .ok (.if_icmp .ge 31, 3) := by decide +kernel
theorem dX5_appliesNow_12 : decode cX5_appliesNow 12 = .ok (.iload_n 1, 1) := by decide +kernel
theorem dX5_appliesNow_13 : decode cX5_appliesNow 13 = .ok (.aload_n 0, 1) := by decide +kernel
theorem dX5_appliesNow_14 : decode cX5_appliesNow 14 = .ok (.iload_n 2, 1) := by decide +kernel
theorem dX5_appliesNow_15 : decode cX5_appliesNow 15 = .ok (.aload_n 0, 1) := by decide +kernel
theorem dX5_appliesNow_16 : decode cX5_appliesNow 16 = .ok (.getfield 161, 3) := by decide +kernel
theorem dX5_appliesNow_19 : decode cX5_appliesNow 19 = .ok (.invokevirtual 184, 3) := by decide +kernel
theorem dX5_appliesNow_22 : decode cX5_appliesNow 22 = .ok (.ifCond .eq 9, 3) := by decide +kernel
theorem dX5_appliesNow_25 : decode cX5_appliesNow 25 = .ok (.iconst 1, 1) := by decide +kernel
theorem dX5_appliesNow_26 : decode cX5_appliesNow 26 = .ok (.iload_n 2, 1) := by decide +kernel
theorem dX5_appliesNow_27 : decode cX5_appliesNow 27 = .ok (.ishl, 1) := by decide +kernel
theorem dX5_appliesNow_28 : decode cX5_appliesNow 28 = .ok (.goto 4, 3) := by decide +kernel
theorem dX5_appliesNow_31 : decode cX5_appliesNow 31 = .ok (.iconst 0, 1) := by decide +kernel
theorem dX5_appliesNow_32 : decode cX5_appliesNow 32 = .ok (.ior, 1) := by decide +kernel
theorem dX5_appliesNow_33 : decode cX5_appliesNow 33 = .ok (.istore_n 1, 1) := by decide +kernel
theorem dX5_appliesNow_34 : decode cX5_appliesNow 34 = .ok (.iinc 2 1, 3) := by decide +kernel
theorem dX5_appliesNow_37 : decode cX5_appliesNow 37 = .ok (.goto (-33), 3) := by decide +kernel
theorem dX5_appliesNow_40 : decode cX5_appliesNow 40 = .ok (.iload_n 1, 1) := by decide +kernel
theorem dX5_appliesNow_41 : decode cX5_appliesNow 41 = .ok (.ireturn, 1) := by decide +kernel
theorem dX5_readingOf_0 : decode cX5_readingOf 0 = .ok (.aload_n 0, 1) := by decide +kernel
theorem dX5_readingOf_1 : decode cX5_readingOf 1 = .ok (.iload_n 1, 1) := by decide +kernel
theorem dX5_readingOf_2 : decode cX5_readingOf 2 = .ok (.invokevirtual 187, 3) := by decide +kernel
theorem dX5_readingOf_5 : decode cX5_readingOf 5 = .ok (.iload_n 2, 1) := by decide +kernel
theorem dX5_readingOf_6 : decode cX5_readingOf 6 = .ok (.ifCond .ne 10, 3) := by decide +kernel
theorem dX5_readingOf_9 : decode cX5_readingOf 9 = .ok (.aload_n 0, 1) := by decide +kernel
theorem dX5_readingOf_10 : decode cX5_readingOf 10 = .ok (.getfield 161, 3) := by decide +kernel
theorem dX5_readingOf_13 : decode cX5_readingOf 13 = .ok (.goto 23, 3) := by decide +kernel
theorem dX5_readingOf_16 : decode cX5_readingOf 16 = .ok (.iload_n 2, 1) := by decide +kernel
theorem dX5_readingOf_17 : decode cX5_readingOf 17 = .ok (.iconst 1, 1) := by decide +kernel
theorem dX5_readingOf_18 : decode cX5_readingOf 18 = .ok (.if_icmp .ne 10, 3) := by decide +kernel
theorem dX5_readingOf_21 : decode cX5_readingOf 21 = .ok (.aload_n 0, 1) := by decide +kernel
theorem dX5_readingOf_22 : decode cX5_readingOf 22 = .ok (.invokevirtual 196, 3) := by decide +kernel
theorem dX5_readingOf_25 : decode cX5_readingOf 25 = .ok (.goto 11, 3) := by decide +kernel
theorem dX5_readingOf_28 : decode cX5_readingOf 28 = .ok (.aload_n 0, 1) := by decide +kernel
theorem dX5_readingOf_29 : decode cX5_readingOf 29 = .ok (.aload_n 0, 1) := by decide +kernel
theorem dX5_readingOf_30 : decode cX5_readingOf 30 = .ok (.getfield 161, 3) := by decide +kernel
theorem dX5_readingOf_33 : decode cX5_readingOf 33 = .ok (.invokevirtual 190, 3) := by decide +kernel
theorem dX5_readingOf_36 : decode cX5_readingOf 36 = .ok (.ireturn, 1) := by decide +kernel
theorem dX5_reading_0 : decode cX5_reading 0 = .ok (.aload_n 0, 1) := by decide +kernel
theorem dX5_reading_1 : decode cX5_reading 1 = .ok (.invokevirtual 129, 3) := by decide +kernel
theorem dX5_reading_4 : decode cX5_reading 4 = .ok (.iload_n 1, 1) := by decide +kernel
theorem dX5_reading_5 : decode cX5_reading 5 = .ok (.invokestatic 193, 3) := by decide +kernel
theorem dX5_reading_8 : decode cX5_reading 8 = .ok (.ifCond .eq 24, 3) := by decide +kernel
theorem dX5_reading_11 : decode cX5_reading 11 = .ok (.iload_n 2, 1) := by decide +kernel
theorem dX5_reading_12 : decode cX5_reading 12 = .ok (.i2l, 1) := by decide +kernel
theorem dX5_reading_13 : decode cX5_reading 13 = .ok (.lconst 0, 1) := by decide +kernel
theorem dX5_reading_14 : decode cX5_reading 14 = .ok (.ldc2_w 74, 3) := by decide +kernel
theorem dX5_reading_17 : decode cX5_reading 17 = .ok (.invokestatic 61, 3) := by decide +kernel
theorem dX5_reading_20 : decode cX5_reading 20 = .ok (.ifCond .eq 12, 3) := by decide +kernel
theorem dX5_reading_23 : decode cX5_reading 23 = .ok (.aload_n 0, 1) := by decide +kernel
theorem dX5_reading_24 : decode cX5_reading 24 = .ok (.iload_n 1, 1) := by decide +kernel
theorem dX5_reading_25 : decode cX5_reading 25 = .ok (.iload_n 2, 1) := by decide +kernel
theorem dX5_reading_26 : decode cX5_reading 26 = .ok (.invokevirtual 200, 3) := by decide +kernel
theorem dX5_reading_29 : decode cX5_reading 29 = .ok (.goto 5, 3) := by decide +kernel
theorem dX5_reading_32 : decode cX5_reading 32 = .ok (.bipush (-2), 2) := by decide +kernel
theorem dX5_reading_34 : decode cX5_reading 34 = .ok (.ireturn, 1) := by decide +kernel
theorem dX5_dayOf_0 : decode cX5_dayOf 0 = .ok (.aload_n 0, 1) := by decide +kernel
theorem dX5_dayOf_1 : decode cX5_dayOf 1 = .ok (.aload_n 0, 1) := by decide +kernel
theorem dX5_dayOf_2 : decode cX5_dayOf 2 = .ok (.getfield 40, 3) := by decide +kernel
theorem dX5_dayOf_5 : decode cX5_dayOf 5 = .ok (.iconst 0, 1) := by decide +kernel
theorem dX5_dayOf_6 : decode cX5_dayOf 6 = .ok (.iaload, 1) := by decide +kernel
