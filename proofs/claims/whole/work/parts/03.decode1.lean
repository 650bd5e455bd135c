theorem dX4_init_0 : decode cX4_init 0 = .ok (.aload_n 0, 1) := by decide +kernel
theorem dX4_init_1 : decode cX4_init 1 = .ok (.invokespecial 1, 3) := by decide +kernel
theorem dX4_init_4 : decode cX4_init 4 = .ok (.aload_n 0, 1) := by decide +kernel
theorem dX4_init_5 : decode cX4_init 5 = .ok (.new 7, 3) := by decide +kernel
theorem dX4_init_8 : decode cX4_init 8 = .ok (.dup, 1) := by decide +kernel
theorem dX4_init_9 : decode cX4_init 9 = .ok (.iconst 1, 1) := by decide +kernel
theorem dX4_init_10 : decode cX4_init 10 = .ok (.iconst 3, 1) := by decide +kernel
theorem dX4_init_11 : decode cX4_init 11 = .ok (.bipush 12, 2) := by decide +kernel
theorem dX4_init_13 : decode cX4_init 13 = .ok (.invokespecial 11, 3) := by decide +kernel
theorem dX4_init_16 : decode cX4_init 16 = .ok (.putfield 14, 3) := by decide +kernel
theorem dX4_init_19 : decode cX4_init 19 = .ok (.aload_n 0, 1) := by decide +kernel
theorem dX4_init_20 : decode cX4_init 20 = .ok (.new 7, 3) := by decide +kernel
theorem dX4_init_23 : decode cX4_init 23 = .ok (.dup, 1) := by decide +kernel
theorem dX4_init_24 : decode cX4_init 24 = .ok (.iconst 0, 1) := by decide +kernel
theorem dX4_init_25 : decode cX4_init 25 = .ok (.iconst 5, 1) := by decide +kernel
theorem dX4_init_26 : decode cX4_init 26 = .ok (.bipush 10, 2) := by decide +kernel
theorem dX4_init_28 : decode cX4_init 28 = .ok (.invokespecial 11, 3) := by decide +kernel
theorem dX4_init_31 : decode cX4_init 31 = .ok (.putfield 18, 3) := by decide +kernel
theorem dX4_init_34 : decode cX4_init 34 = .ok (.aload_n 0, 1) := by decide +kernel
theorem dX4_init_35 : decode cX4_init 35 = .ok (.new 21, 3) := by decide +kernel
theorem dX4_init_38 : decode cX4_init 38 = .ok (.dup, 1) := by decide +kernel
theorem dX4_init_39 : decode cX4_init 39 = .ok (.bipush 8, 2) := by decide +kernel
theorem dX4_init_41 : decode cX4_init 41 = .ok (.invokespecial 23, 3) := by decide +kernel
theorem dX4_init_44 : decode cX4_init 44 = .ok (.putfield 26, 3) := by decide +kernel
theorem dX4_init_47 : decode cX4_init 47 = .ok (.aload_n 0, 1) := by decide +kernel
theorem dX4_init_48 : decode cX4_init 48 = .ok (.new 21, 3) := by decide +kernel
theorem dX4_init_51 : decode cX4_init 51 = .ok (.dup, 1) := by decide +kernel
theorem dX4_init_52 : decode cX4_init 52 = .ok (.bipush 12, 2) := by decide +kernel
theorem dX4_init_54 : decode cX4_init 54 = .ok (.invokespecial 23, 3) := by decide +kernel
theorem dX4_init_57 : decode cX4_init 57 = .ok (.putfield 30, 3) := by decide +kernel
theorem dX4_init_60 : decode cX4_init 60 = .ok (.aload_n 0, 1) := by decide +kernel
theorem dX4_init_61 : decode cX4_init 61 = .ok (.new 21, 3) := by decide +kernel
theorem dX4_init_64 : decode cX4_init 64 = .ok (.dup, 1) := by decide +kernel
theorem dX4_init_65 : decode cX4_init 65 = .ok (.bipush 8, 2) := by decide +kernel
theorem dX4_init_67 : decode cX4_init 67 = .ok (.invokespecial 23, 3) := by decide +kernel
theorem dX4_init_70 : decode cX4_init 70 = .ok (.putfield 33, 3) := by decide +kernel
theorem dX4_init_73 : decode cX4_init 73 = .ok (.aload_n 0, 1) := by decide +kernel
theorem dX4_init_74 : decode cX4_init 74 = .ok (.new 36, 3) := by decide +kernel
theorem dX4_init_77 : decode cX4_init 77 = .ok (.dup, 1) := by decide +kernel
theorem dX4_init_78 : decode cX4_init 78 = .ok (.aload_n 0, 1) := by decide +kernel
theorem dX4_init_79 : decode cX4_init 79 = .ok (.getfield 14, 3) := by decide +kernel
theorem dX4_init_82 : decode cX4_init 82 = .ok (.aload_n 0, 1) := by decide +kernel
theorem dX4_init_83 : decode cX4_init 83 = .ok (.getfield 18, 3) := by decide +kernel
theorem dX4_init_86 : decode cX4_init 86 = .ok (.aload_n 0, 1) := by decide +kernel
theorem dX4_init_87 : decode cX4_init 87 = .ok (.getfield 26, 3) := by decide +kernel
theorem dX4_init_90 : decode cX4_init 90 = .ok (.invokespecial 38, 3) := by decide +kernel
theorem dX4_init_93 : decode cX4_init 93 = .ok (.putfield 41, 3) := by decide +kernel
theorem dX4_init_96 : decode cX4_init 96 = .ok (.aload_n 0, 1) := by decide +kernel
theorem dX4_init_97 : decode cX4_init 97 = .ok (.iconst 4, 1) := by decide +kernel
theorem dX4_init_98 : decode cX4_init 98 = .ok (.anewarray 45, 3) := by decide +kernel
theorem dX4_init_101 : decode cX4_init 101 = .ok (.putfield 47, 3) := by decide +kernel
theorem dX4_init_104 : decode cX4_init 104 = .ok (.aload_n 0, 1) := by decide +kernel
theorem dX4_init_105 : decode cX4_init 105 = .ok (.iconst 0, 1) := by decide +kernel
theorem dX4_init_106 : decode cX4_init 106 = .ok (.putfield 51, 3) := by decide +kernel
theorem dX4_init_109 : decode cX4_init 109 = .ok (.aload_n 0, 1) := by decide +kernel
theorem dX4_init_110 : decode cX4_init 110 = .ok (.iconst 1, 1) := by decide +kernel
theorem dX4_init_111 : decode cX4_init 111 = .ok (.putfield 55, 3) := by decide +kernel
theorem dX4_init_114 : decode cX4_init 114 = .ok (.aload_n 0, 1) := by decide +kernel
theorem dX4_init_115 : decode cX4_init 115 = .ok (.iconst 0, 1) := by decide +kernel
theorem dX4_init_116 : decode cX4_init 116 = .ok (.putfield 58, 3) := by decide +kernel
theorem dX4_init_119 : decode cX4_init 119 = .ok (.iconst 0, 1) := by decide +kernel
theorem dX4_init_120 : decode cX4_init 120 = .ok (.istore_n 1, 1) := by decide +kernel
theorem dX4_init_121 : decode cX4_init 121 = .ok (.iload_n 1, 1) := by decide +kernel
theorem dX4_init_122 : decode cX4_init 122 = .ok (.iconst 4, 1) := by decide +kernel
theorem dX4_init_123 : decode cX4_init 123 = .ok (.if_icmp .ge 22, 3) := by decide +kernel
theorem dX4_init_126 : decode cX4_init 126 = .ok (.aload_n 0, 1) := by decide +kernel
theorem dX4_init_127 : decode cX4_init 127 = .ok (.getfield 47, 3) := by decide +kernel
theorem dX4_init_130 : decode cX4_init 130 = .ok (.iload_n 1, 1) := by decide +kernel
theorem dX4_init_131 : decode cX4_init 131 = .ok (.new 45, 3) := by decide +kernel
theorem dX4_init_134 : decode cX4_init 134 = .ok (.dup, 1) := by decide +kernel
theorem dX4_init_135 : decode cX4_init 135 = .ok (.invokespecial 61, 3) := by decide +kernel
theorem dX4_init_138 : decode cX4_init 138 = .ok (.aastore, 1) := by decide +kernel
theorem dX4_init_139 : decode cX4_init 139 = .ok (.iinc 1 1, 3) := by decide +kernel
theorem dX4_init_142 : decode cX4_init 142 = .ok (.goto (-21), 3) := by decide +kernel
theorem dX4_init_145 : decode cX4_init 145 = .ok (.return_, 1) := by decide +kernel
theorem dX4_type_0 : decode cX4_type 0 = .ok (.iload_n 1, 1) := by decide +kernel
theorem dX4_type_1 : decode cX4_type 1 = .ok (.iconst 2, 1) := by decide +kernel
theorem dX4_type_2 : decode cX4_type 2 = .ok (.invokestatic 62, 3) := by decide +kernel
theorem dX4_type_5 : decode cX4_type 5 = .ok (.ifCond .eq 13, 3) := by decide +kernel
theorem dX4_type_8 : decode cX4_type 8 = .ok (.iload_n 2, 1) := by decide +kernel
theorem dX4_type_9 : decode cX4_type 9 = .ok (.sipush 256, 3) := by decide +kernel
theorem dX4_type_12 : decode cX4_type 12 = .ok (.invokestatic 62, 3) := by decide +kernel
theorem dX4_type_15 : decode cX4_type 15 = .ok (.ifCond .ne 6, 3) := by decide +kernel
theorem dX4_type_18 : decode cX4_type 18 = .ok (.bipush (-2), 2) := by decide +kernel
theorem dX4_type_20 : decode cX4_type 20 = .ok (.ireturn, 1) := by decide +kernel
theorem dX4_type_21 : decode cX4_type 21 = .ok (.aload_n 0, 1) := by decide +kernel
theorem dX4_type_22 : decode cX4_type 22 = .ok (.getfield 41, 3) := by decide +kernel
theorem dX4_type_25 : decode cX4_type 25 = .ok (.iconst 1, 1) := by decide +kernel
theorem dX4_type_26 : decode cX4_type 26 = .ok (.putfield 66, 3) := by decide +kernel
theorem dX4_type_29 : decode cX4_type 29 = .ok (.aload_n 0, 1) := by decide +kernel
theorem dX4_type_30 : decode cX4_type 30 = .ok (.iload_n 1, 1) := by decide +kernel
theorem dX4_type_31 : decode cX4_type 31 = .ok (.invokevirtual 70, 3) := by decide +kernel
theorem dX4_type_34 : decode cX4_type 34 = .ok (.iload_n 2, 1) := by decide +kernel
theorem dX4_type_35 : decode cX4_type 35 = .ok (.invokevirtual 74, 3) := by decide +kernel
theorem dX4_type_38 : decode cX4_type 38 = .ok (.ireturn, 1) := by decide +kernel
theorem dX4_wipe_0 : decode cX4_wipe 0 = .ok (.iload_n 1, 1) := by decide +kernel
theorem dX4_wipe_1 : decode cX4_wipe 1 = .ok (.iconst 2, 1) := by decide +kernel
theorem dX4_wipe_2 : decode cX4_wipe 2 = .ok (.invokestatic 62, 3) := by decide +kernel
theorem dX4_wipe_5 : decode cX4_wipe 5 = .ok (.ifCond .ne 6, 3) := by decide +kernel
theorem dX4_wipe_8 : decode cX4_wipe 8 = .ok (.bipush (-2), 2) := by decide +kernel
theorem dX4_wipe_10 : decode cX4_wipe 10 = .ok (.ireturn, 1) := by decide +kernel
theorem dX4_wipe_11 : decode cX4_wipe 11 = .ok (.aload_n 0, 1) := by decide +kernel
theorem dX4_wipe_12 : decode cX4_wipe 12 = .ok (.getfield 41, 3) := by decide +kernel
theorem dX4_wipe_15 : decode cX4_wipe 15 = .ok (.iconst 1, 1) := by decide +kernel
theorem dX4_wipe_16 : decode cX4_wipe 16 = .ok (.putfield 66, 3) := by decide +kernel
theorem dX4_wipe_19 : decode cX4_wipe 19 = .ok (.aload_n 0, 1) := by decide +kernel
theorem dX4_wipe_20 : decode cX4_wipe 20 = .ok (.iload_n 1, 1) := by decide +kernel
theorem dX4_wipe_21 : decode cX4_wipe 21 = .ok (.invokevirtual 70, 3) := by decide +kernel
theorem dX4_wipe_24 : decode cX4_wipe 24 = .ok (.invokevirtual 78, 3) := by decide +kernel
theorem dX4_wipe_27 : decode cX4_wipe 27 = .ok (.ireturn, 1) := by decide +kernel
theorem dX4_undo_0 : decode cX4_undo 0 = .ok (.iload_n 1, 1) := by decide +kernel
theorem dX4_undo_1 : decode cX4_undo 1 = .ok (.iconst 2, 1) := by decide +kernel
theorem dX4_undo_2 : decode cX4_undo 2 = .ok (.invokestatic 62, 3) := by decide +kernel
theorem dX4_undo_5 : decode cX4_undo 5 = .ok (.ifCond .ne 6, 3) := by decide +kernel
theorem dX4_undo_8 : decode cX4_undo 8 = .ok (.bipush (-2), 2) := by decide +kernel
theorem dX4_undo_10 : decode cX4_undo 10 = .ok (.ireturn, 1) := by decide +kernel
theorem dX4_undo_11 : decode cX4_undo 11 = .ok (.aload_n 0, 1) := by decide +kernel
theorem dX4_undo_12 : decode cX4_undo 12 = .ok (.getfield 41, 3) := by decide +kernel
theorem dX4_undo_15 : decode cX4_undo 15 = .ok (.iconst 1, 1) := by decide +kernel
theorem dX4_undo_16 : decode cX4_undo 16 = .ok (.putfield 66, 3) := by decide +kernel
theorem dX4_undo_19 : decode cX4_undo 19 = .ok (.aload_n 0, 1) := by decide +kernel
theorem dX4_undo_20 : decode cX4_undo 20 = .ok (.iload_n 1, 1) := by decide +kernel
theorem dX4_undo_21 : decode cX4_undo 21 = .ok (.invokevirtual 70, 3) := by decide +kernel
theorem dX4_undo_24 : decode cX4_undo 24 = .ok (.invokevirtual 82, 3) := by decide +kernel
theorem dX4_undo_27 : decode cX4_undo 27 = .ok (.ireturn, 1) := by decide +kernel
theorem dX4_fault_0 : decode cX4_fault 0 = .ok (.iload_n 1, 1) := by decide +kernel
theorem dX4_fault_1 : decode cX4_fault 1 = .ok (.iconst 2, 1) := by decide +kernel
theorem dX4_fault_2 : decode cX4_fault 2 = .ok (.invokestatic 62, 3) := by decide +kernel
theorem dX4_fault_5 : decode cX4_fault 5 = .ok (.ifCond .eq 14, 3) := by decide +kernel
theorem dX4_fault_8 : decode cX4_fault 8 = .ok (.aload_n 0, 1) := by decide +kernel
theorem dX4_fault_9 : decode cX4_fault 9 = .ok (.iload_n 1, 1) := by decide +kernel
theorem dX4_fault_10 : decode cX4_fault 10 = .ok (.invokevirtual 70, 3) := by decide +kernel
theorem dX4_fault_13 : decode cX4_fault 13 = .ok (.getfield 85, 3) := by decide +kernel
theorem dX4_fault_16 : decode cX4_fault 16 = .ok (.goto 5, 3) := by decide +kernel
theorem dX4_fault_19 : decode cX4_fault 19 = .ok (.bipush (-2), 2) := by decide +kernel
theorem dX4_fault_21 : decode cX4_fault 21 = .ok (.ireturn, 1) := by decide +kernel
theorem dX4_leaf_0 : decode cX4_leaf 0 = .ok (.iload_n 1, 1) := by decide +kernel
theorem dX4_leaf_1 : decode cX4_leaf 1 = .ok (.aload_n 0, 1) := by decide +kernel
theorem dX4_leaf_2 : decode cX4_leaf 2 = .ok (.getfield 14, 3) := by decide +kernel
theorem dX4_leaf_5 : decode cX4_leaf 5 = .ok (.getfield 88, 3) := by decide +kernel
theorem dX4_leaf_8 : decode cX4_leaf 8 = .ok (.invokestatic 62, 3) := by decide +kernel
theorem dX4_leaf_11 : decode cX4_leaf 11 = .ok (.ifCond .eq 23, 3) := by decide +kernel
theorem dX4_leaf_14 : decode cX4_leaf 14 = .ok (.iload_n 2, 1) := by decide +kernel
theorem dX4_leaf_15 : decode cX4_leaf 15 = .ok (.iconst 3, 1) := by decide +kernel
theorem dX4_leaf_16 : decode cX4_leaf 16 = .ok (.invokestatic 62, 3) := by decide +kernel
theorem dX4_leaf_19 : decode cX4_leaf 19 = .ok (.ifCond .eq 15, 3) := by decide +kernel
theorem dX4_leaf_22 : decode cX4_leaf 22 = .ok (.aload_n 0, 1) := by decide +kernel
theorem dX4_leaf_23 : decode cX4_leaf 23 = .ok (.getfield 14, 3) := by decide +kernel
theorem dX4_leaf_26 : decode cX4_leaf 26 = .ok (.iload_n 1, 1) := by decide +kernel
theorem dX4_leaf_27 : decode cX4_leaf 27 = .ok (.iload_n 2, 1) := by decide +kernel
theorem dX4_leaf_28 : decode cX4_leaf 28 = .ok (.invokevirtual 91, 3) := by decide +kernel
theorem dX4_leaf_31 : decode cX4_leaf 31 = .ok (.goto 5, 3) := by decide +kernel
theorem dX4_leaf_34 : decode cX4_leaf 34 = .ok (.bipush (-2), 2) := by decide +kernel
theorem dX4_leaf_36 : decode cX4_leaf 36 = .ok (.ireturn, 1) := by decide +kernel
theorem dX4_rule_0 : decode cX4_rule 0 = .ok (.iload_n 1, 1) := by decide +kernel
theorem dX4_rule_1 : decode cX4_rule 1 = .ok (.aload_n 0, 1) := by decide +kernel
theorem dX4_rule_2 : decode cX4_rule 2 = .ok (.getfield 18, 3) := by decide +kernel
theorem dX4_rule_5 : decode cX4_rule 5 = .ok (.getfield 88, 3) := by decide +kernel
theorem dX4_rule_8 : decode cX4_rule 8 = .ok (.invokestatic 62, 3) := by decide +kernel
theorem dX4_rule_11 : decode cX4_rule 11 = .ok (.ifCond .eq 23, 3) := by decide +kernel
theorem dX4_rule_14 : decode cX4_rule 14 = .ok (.iload_n 2, 1) := by decide +kernel
theorem dX4_rule_15 : decode cX4_rule 15 = .ok (.iconst 5, 1) := by decide +kernel
theorem dX4_rule_16 : decode cX4_rule 16 = .ok (.invokestatic 62, 3) := by decide +kernel
theorem dX4_rule_19 : decode cX4_rule 19 = .ok (.ifCond .eq 15, 3) := by decide +kernel
theorem dX4_rule_22 : decode cX4_rule 22 = .ok (.aload_n 0, 1) := by decide +kernel
theorem dX4_rule_23 : decode cX4_rule 23 = .ok (.getfield 18, 3) := by decide +kernel
theorem dX4_rule_26 : decode cX4_rule 26 = .ok (.iload_n 1, 1) := by decide +kernel
theorem dX4_rule_27 : decode cX4_rule 27 = .ok (.iload_n 2, 1) := by decide +kernel
theorem dX4_rule_28 : decode cX4_rule 28 = .ok (.invokevirtual 91, 3) := by decide +kernel
theorem dX4_rule_31 : decode cX4_rule 31 = .ok (.goto 5, 3) := by decide +kernel
theorem dX4_rule_34 : decode cX4_rule 34 = .ok (.bipush (-2), 2) := by decide +kernel
theorem dX4_rule_36 : decode cX4_rule 36 = .ok (.ireturn, 1) := by decide +kernel
theorem dX4_crack_0 : decode cX4_crack 0 = .ok (.iload_n 1, 1) := by decide +kernel
theorem dX4_crack_1 : decode cX4_crack 1 = .ok (.bipush 6, 2) := by decide +kernel
theorem dX4_crack_3 : decode cX4_crack 3 = .ok (.invokestatic 62, 3) := by decide +kernel
theorem dX4_crack_6 : decode cX4_crack 6 = .ok (.ifCond .eq 12, 3) := by decide +kernel
theorem dX4_crack_9 : decode cX4_crack 9 = .ok (.iload_n 2, 1) := by decide +kernel
theorem dX4_crack_10 : decode cX4_crack 10 = .ok (.bipush 6, 2) := by decide +kernel
theorem dX4_crack_12 : decode cX4_crack 12 = .ok (.invokestatic 62, 3) := by decide +kernel
theorem dX4_crack_15 : decode cX4_crack 15 = .ok (.ifCond .ne 6, 3) := by decide +kernel
theorem dX4_crack_18 : decode cX4_crack 18 = .ok (.bipush (-2), 2) := by decide +kernel
theorem dX4_crack_20 : decode cX4_crack 20 = .ok (.ireturn, 1) := by decide +kernel
theorem dX4_crack_21 : decode cX4_crack 21 = .ok (.aload_n 0, 1) := by decide +kernel
theorem dX4_crack_22 : decode cX4_crack 22 = .ok (.getfield 41, 3) := by decide +kernel
theorem dX4_crack_25 : decode cX4_crack 25 = .ok (.iconst 1, 1) := by decide +kernel
theorem dX4_crack_26 : decode cX4_crack 26 = .ok (.putfield 66, 3) := by decide +kernel
theorem dX4_crack_29 : decode cX4_crack 29 = .ok (.aload_n 0, 1) := by decide +kernel
theorem dX4_crack_30 : decode cX4_crack 30 = .ok (.getfield 26, 3) := by decide +kernel
theorem dX4_crack_33 : decode cX4_crack 33 = .ok (.iload_n 1, 1) := by decide +kernel
theorem dX4_crack_34 : decode cX4_crack 34 = .ok (.iload_n 2, 1) := by decide +kernel
theorem dX4_crack_35 : decode cX4_crack 35 = .ok (.invokevirtual 95, 3) := by decide +kernel
theorem dX4_crack_38 : decode cX4_crack 38 = .ok (.ireturn, 1) := by decide +kernel
theorem dX4_deed_0 : decode cX4_deed 0 = .ok (.iload_n 1, 1) := by decide +kernel
theorem dX4_deed_1 : decode cX4_deed 1 = .ok (.bipush 28, 2) := by decide +kernel
theorem dX4_deed_3 : decode cX4_deed 3 = .ok (.invokestatic 62, 3) := by decide +kernel
theorem dX4_deed_6 : decode cX4_deed 6 = .ok (.ifCond .eq 24, 3) := by decide +kernel
theorem dX4_deed_9 : decode cX4_deed 9 = .ok (.iload_n 2, 1) := by decide +kernel
theorem dX4_deed_10 : decode cX4_deed 10 = .ok (.bipush 8, 2) := by decide +kernel
theorem dX4_deed_12 : decode cX4_deed 12 = .ok (.invokestatic 62, 3) := by decide +kernel
theorem dX4_deed_15 : decode cX4_deed 15 = .ok (.ifCond .eq 15, 3) := by decide +kernel
theorem dX4_deed_18 : decode cX4_deed 18 = .ok (.aload_n 0, 1) := by decide +kernel
theorem dX4_deed_19 : decode cX4_deed 19 = .ok (.getfield 30, 3) := by decide +kernel
theorem dX4_deed_22 : decode cX4_deed 22 = .ok (.iload_n 1, 1) := by decide +kernel
theorem dX4_deed_23 : decode cX4_deed 23 = .ok (.iload_n 2, 1) := by decide +kernel
theorem dX4_deed_24 : decode cX4_deed 24 = .ok (.invokevirtual 95, 3) := by decide +kernel
theorem dX4_deed_27 : decode cX4_deed 27 = .ok (.goto 5, 3) := by decide +kernel
theorem dX4_deed_30 : decode cX4_deed 30 = .ok (.bipush (-2), 2) := by decide +kernel
theorem dX4_deed_32 : decode cX4_deed 32 = .ok (.ireturn, 1) := by decide +kernel
theorem dX4_back_0 : decode cX4_back 0 = .ok (.iload_n 1, 1) := by decide +kernel
theorem dX4_back_1 : decode cX4_back 1 = .ok (.iconst 2, 1) := by decide +kernel
theorem dX4_back_2 : decode cX4_back 2 = .ok (.invokestatic 62, 3) := by decide +kernel
theorem dX4_back_5 : decode cX4_back 5 = .ok (.ifCond .ne 6, 3) := by decide +kernel
theorem dX4_back_8 : decode cX4_back 8 = .ok (.bipush (-2), 2) := by decide +kernel
theorem dX4_back_10 : decode cX4_back 10 = .ok (.ireturn, 1) := by decide +kernel
theorem dX4_back_11 : decode cX4_back 11 = .ok (.iload_n 1, 1) := by decide +kernel
theorem dX4_back_12 : decode cX4_back 12 = .ok (.iconst 1, 1) := by decide +kernel
theorem dX4_back_13 : decode cX4_back 13 = .ok (.if_icmp .ne 11, 3) := by decide +kernel
theorem dX4_back_16 : decode cX4_back 16 = .ok (.aload_n 0, 1) := by decide +kernel
theorem dX4_back_17 : decode cX4_back 17 = .ok (.getfield 30, 3) := by decide +kernel
theorem dX4_back_20 : decode cX4_back 20 = .ok (.invokevirtual 97, 3) := by decide +kernel
theorem dX4_back_23 : decode cX4_back 23 = .ok (.ireturn, 1) := by decide +kernel
theorem dX4_back_24 : decode cX4_back 24 = .ok (.aload_n 0, 1) := by decide +kernel
theorem dX4_back_25 : decode cX4_back 25 = .ok (.getfield 41, 3) := by decide +kernel
theorem dX4_back_28 : decode cX4_back 28 = .ok (.iconst 1, 1) := by decide +kernel
theorem dX4_back_29 : decode cX4_back 29 = .ok (.putfield 66, 3) := by decide +kernel
theorem dX4_back_32 : decode cX4_back 32 = .ok (.aload_n 0, 1) := by decide +kernel
theorem dX4_back_33 : decode cX4_back 33 = .ok (.getfield 26, 3) := by decide +kernel
theorem dX4_back_36 : decode cX4_back 36 = .ok (.invokevirtual 97, 3) := by decide +kernel
theorem dX4_back_39 : decode cX4_back 39 = .ok (.ireturn, 1) := by decide +kernel
theorem dX4_set_0 : decode cX4_set 0 = .ok (.iload_n 1, 1) := by decide +kernel
theorem dX4_set_1 : decode cX4_set 1 = .ok (.iconst 2, 1) := by decide +kernel
theorem dX4_set_2 : decode cX4_set 2 = .ok (.invokestatic 62, 3) := by decide +kernel
theorem dX4_set_5 : decode cX4_set 5 = .ok (.ifCond .eq 11, 3) := by decide +kernel
theorem dX4_set_8 : decode cX4_set 8 = .ok (.iload_n 2, 1) := by decide +kernel
theorem dX4_set_9 : decode cX4_set 9 = .ok (.iconst 4, 1) := by decide +kernel
theorem dX4_set_10 : decode cX4_set 10 = .ok (.invokestatic 62, 3) := by decide +kernel
theorem dX4_set_13 : decode cX4_set 13 = .ok (.ifCond .ne 6, 3) := by decide +kernel
theorem dX4_set_16 : decode cX4_set 16 = .ok (.bipush (-2), 2) := by decide +kernel
theorem dX4_set_18 : decode cX4_set 18 = .ok (.ireturn, 1) := by decide +kernel
theorem dX4_set_19 : decode cX4_set 19 = .ok (.iload_n 1, 1) := by decide +kernel
theorem dX4_set_20 : decode cX4_set 20 = .ok (.ifCond .ne 10, 3) := by decide +kernel
theorem dX4_set_23 : decode cX4_set 23 = .ok (.aload_n 0, 1) := by decide +kernel
theorem dX4_set_24 : decode cX4_set 24 = .ok (.getfield 51, 3) := by decide +kernel
theorem dX4_set_27 : decode cX4_set 27 = .ok (.goto 7, 3) := by decide +kernel
theorem dX4_set_30 : decode cX4_set 30 = .ok (.aload_n 0, 1) := by decide +kernel
theorem dX4_set_31 : decode cX4_set 31 = .ok (.getfield 55, 3) := by decide +kernel
theorem dX4_set_34 : decode cX4_set 34 = .ok (.istore_n 3, 1) := by decide +kernel
theorem dX4_set_35 : decode cX4_set 35 = .ok (.iload_n 1, 1) := by decide +kernel
theorem dX4_set_36 : decode cX4_set 36 = .ok (.ifCond .ne 11, 3) := by decide +kernel
theorem dX4_set_39 : decode cX4_set 39 = .ok (.aload_n 0, 1) := by decide +kernel
theorem dX4_set_40 : decode cX4_set 40 = .ok (.iload_n 2, 1) := by decide +kernel
theorem dX4_set_41 : decode cX4_set 41 = .ok (.putfield 51, 3) := by decide +kernel
theorem dX4_set_44 : decode cX4_set 44 = .ok (.goto 8, 3) := by decide +kernel
theorem dX4_set_47 : decode cX4_set 47 = .ok (.aload_n 0, 1) := by decide +kernel
theorem dX4_set_48 : decode cX4_set 48 = .ok (.iload_n 2, 1) := by decide +kernel
theorem dX4_set_49 : decode cX4_set 49 = .ok (.putfield 55, 3) := by decide +kernel
theorem dX4_set_52 : decode cX4_set 52 = .ok (.iload_n 3, 1) := by decide +kernel
theorem dX4_set_53 : decode cX4_set 53 = .ok (.ireturn, 1) := by decide +kernel
theorem dX4_lies_0 : decode cX4_lies 0 = .ok (.iload_n 1, 1) := by decide +kernel
theorem dX4_lies_1 : decode cX4_lies 1 = .ok (.iconst 4, 1) := by decide +kernel
theorem dX4_lies_2 : decode cX4_lies 2 = .ok (.invokestatic 62, 3) := by decide +kernel
theorem dX4_lies_5 : decode cX4_lies 5 = .ok (.ifCond .eq 25, 3) := by decide +kernel
theorem dX4_lies_8 : decode cX4_lies 8 = .ok (.iload_n 2, 1) := by decide +kernel
theorem dX4_lies_9 : decode cX4_lies 9 = .ok (.aload_n 0, 1) := by decide +kernel
theorem dX4_lies_10 : decode cX4_lies 10 = .ok (.getfield 14, 3) := by decide +kernel
theorem dX4_lies_13 : decode cX4_lies 13 = .ok (.getfield 88, 3) := by decide +kernel
theorem dX4_lies_16 : decode cX4_lies 16 = .ok (.invokestatic 62, 3) := by decide +kernel
theorem dX4_lies_19 : decode cX4_lies 19 = .ok (.ifCond .eq 11, 3) := by decide +kernel
theorem dX4_lies_22 : decode cX4_lies 22 = .ok (.iload_n 3, 1) := by decide +kernel
theorem dX4_lies_23 : decode cX4_lies 23 = .ok (.iconst 2, 1) := by decide +kernel
theorem dX4_lies_24 : decode cX4_lies 24 = .ok (.invokestatic 62, 3) := by decide +kernel
theorem dX4_lies_27 : decode cX4_lies 27 = .ok (.ifCond .ne 6, 3) := by decide +kernel
theorem dX4_lies_30 : decode cX4_lies 30 = .ok (.bipush (-2), 2) := by decide +kernel
theorem dX4_lies_32 : decode cX4_lies 32 = .ok (.ireturn, 1) := by decide +kernel
theorem dX4_lies_33 : decode cX4_lies 33 = .ok (.aload_n 0, 1) := by decide +kernel
theorem dX4_lies_34 : decode cX4_lies 34 = .ok (.getfield 41, 3) := by decide +kernel
theorem dX4_lies_37 : decode cX4_lies 37 = .ok (.invokevirtual 98, 3) := by decide +kernel
theorem dX4_lies_40 : decode cX4_lies 40 = .ok (.astore 4, 2) := by decide +kernel
theorem dX4_lies_42 : decode cX4_lies 42 = .ok (.iload_n 3, 1) := by decide +kernel
theorem dX4_lies_43 : decode cX4_lies 43 = .ok (.ifCond .ne 15, 3) := by decide +kernel
theorem dX4_lies_46 : decode cX4_lies 46 = .ok (.aload 4, 2) := by decide +kernel
theorem dX4_lies_48 : decode cX4_lies 48 = .ok (.getfield 102, 3) := by decide +kernel
theorem dX4_lies_51 : decode cX4_lies 51 = .ok (.iload_n 1, 1) := by decide +kernel
theorem dX4_lies_52 : decode cX4_lies 52 = .ok (.aaload, 1) := by decide +kernel
theorem dX4_lies_53 : decode cX4_lies 53 = .ok (.iload_n 2, 1) := by decide +kernel
theorem dX4_lies_54 : decode cX4_lies 54 = .ok (.iaload, 1) := by decide +kernel
theorem dX4_lies_55 : decode cX4_lies 55 = .ok (.goto 12, 3) := by decide +kernel
theorem dX4_lies_58 : decode cX4_lies 58 = .ok (.aload 4, 2) := by decide +kernel
theorem dX4_lies_60 : decode cX4_lies 60 = .ok (.getfield 106, 3) := by decide +kernel
theorem dX4_lies_63 : decode cX4_lies 63 = .ok (.iload_n 1, 1) := by decide +kernel
theorem dX4_lies_64 : decode cX4_lies 64 = .ok (.aaload, 1) := by decide +kernel
theorem dX4_lies_65 : decode cX4_lies 65 = .ok (.iload_n 2, 1) := by decide +kernel
theorem dX4_lies_66 : decode cX4_lies 66 = .ok (.iaload, 1) := by decide +kernel
theorem dX4_lies_67 : decode cX4_lies 67 = .ok (.ireturn, 1) := by decide +kernel
theorem dX4_reading_0 : decode cX4_reading 0 = .ok (.iload_n 1, 1) := by decide +kernel
theorem dX4_reading_1 : decode cX4_reading 1 = .ok (.iconst 4, 1) := by decide +kernel
theorem dX4_reading_2 : decode cX4_reading 2 = .ok (.invokestatic 62, 3) := by decide +kernel
theorem dX4_reading_5 : decode cX4_reading 5 = .ok (.ifCond .eq 11, 3) := by decide +kernel
theorem dX4_reading_8 : decode cX4_reading 8 = .ok (.iload_n 2, 1) := by decide +kernel
theorem dX4_reading_9 : decode cX4_reading 9 = .ok (.iconst 3, 1) := by decide +kernel
theorem dX4_reading_10 : decode cX4_reading 10 = .ok (.invokestatic 62, 3) := by decide +kernel
theorem dX4_reading_13 : decode cX4_reading 13 = .ok (.ifCond .ne 6, 3) := by decide +kernel
theorem dX4_reading_16 : decode cX4_reading 16 = .ok (.bipush (-2), 2) := by decide +kernel
theorem dX4_reading_18 : decode cX4_reading 18 = .ok (.ireturn, 1) := by decide +kernel
theorem dX4_reading_19 : decode cX4_reading 19 = .ok (.aload_n 0, 1) := by decide +kernel
theorem dX4_reading_20 : decode cX4_reading 20 = .ok (.getfield 41, 3) := by decide +kernel
theorem dX4_reading_23 : decode cX4_reading 23 = .ok (.invokevirtual 98, 3) := by decide +kernel
theorem dX4_reading_26 : decode cX4_reading 26 = .ok (.astore_n 3, 1) := by decide +kernel
theorem dX4_reading_27 : decode cX4_reading 27 = .ok (.iload_n 2, 1) := by decide +kernel
theorem dX4_reading_28 : decode cX4_reading 28 = .ok (.lookupswitch 42 #[(0, 28), (1, 35)], 28) := by decide +kernel
theorem dX4_reading_56 : decode cX4_reading 56 = .ok (.aload_n 3, 1) := by decide +kernel
theorem dX4_reading_57 : decode cX4_reading 57 = .ok (.getfield 109, 3) := by decide +kernel
theorem dX4_reading_60 : decode cX4_reading 60 = .ok (.iload_n 1, 1) := by decide +kernel
theorem dX4_reading_61 : decode cX4_reading 61 = .ok (.iaload, 1) := by decide +kernel
theorem dX4_reading_62 : decode cX4_reading 62 = .ok (.ireturn, 1) := by decide +kernel
theorem dX4_reading_63 : decode cX4_reading 63 = .ok (.aload_n 3, 1) := by decide +kernel
theorem dX4_reading_64 : decode cX4_reading 64 = .ok (.getfield 113, 3) := by decide +kernel
theorem dX4_reading_67 : decode cX4_reading 67 = .ok (.iload_n 1, 1) := by decide +kernel
theorem dX4_reading_68 : decode cX4_reading 68 = .ok (.iaload, 1) := by decide +kernel
theorem dX4_reading_69 : decode cX4_reading 69 = .ok (.ireturn, 1) := by decide +kernel
theorem dX4_reading_70 : decode cX4_reading 70 = .ok (.aload_n 3, 1) := by decide +kernel
theorem dX4_reading_71 : decode cX4_reading 71 = .ok (.getfield 116, 3) := by decide +kernel
theorem dX4_reading_74 : decode cX4_reading 74 = .ok (.iload_n 1, 1) := by decide +kernel
theorem dX4_reading_75 : decode cX4_reading 75 = .ok (.iaload, 1) := by decide +kernel
theorem dX4_reading_76 : decode cX4_reading 76 = .ok (.ireturn, 1) := by decide +kernel
theorem dX4_day_0 : decode cX4_day 0 = .ok (.iload_n 1, 1) := by decide +kernel
theorem dX4_day_1 : decode cX4_day 1 = .ok (.bipush 28, 2) := by decide +kernel
theorem dX4_day_3 : decode cX4_day 3 = .ok (.invokestatic 62, 3) := by decide +kernel
theorem dX4_day_6 : decode cX4_day 6 = .ok (.ifCond .eq 22, 3) := by decide +kernel
theorem dX4_day_9 : decode cX4_day 9 = .ok (.aload_n 0, 1) := by decide +kernel
theorem dX4_day_10 : decode cX4_day 10 = .ok (.getfield 41, 3) := by decide +kernel
theorem dX4_day_13 : decode cX4_day 13 = .ok (.invokevirtual 98, 3) := by decide +kernel
theorem dX4_day_16 : decode cX4_day 16 = .ok (.getfield 116, 3) := by decide +kernel
theorem dX4_day_19 : decode cX4_day 19 = .ok (.aload_n 0, 1) := by decide +kernel
theorem dX4_day_20 : decode cX4_day 20 = .ok (.iload_n 1, 1) := by decide +kernel
theorem dX4_day_21 : decode cX4_day 21 = .ok (.invokevirtual 119, 3) := by decide +kernel
theorem dX4_day_24 : decode cX4_day 24 = .ok (.iaload, 1) := by decide +kernel
theorem dX4_day_25 : decode cX4_day 25 = .ok (.goto 5, 3) := by decide +kernel
theorem dX4_day_28 : decode cX4_day 28 = .ok (.bipush (-2), 2) := by decide +kernel
theorem dX4_day_30 : decode cX4_day 30 = .ok (.ireturn, 1) := by decide +kernel
theorem dX4_broken_0 : decode cX4_broken 0 = .ok (.iload_n 1, 1) := by decide +kernel
theorem dX4_broken_1 : decode cX4_broken 1 = .ok (.iconst 2, 1) := by decide +kernel
theorem dX4_broken_2 : decode cX4_broken 2 = .ok (.invokestatic 62, 3) := by decide +kernel
theorem dX4_broken_5 : decode cX4_broken 5 = .ok (.ifCond .ne 6, 3) := by decide +kernel
theorem dX4_broken_8 : decode cX4_broken 8 = .ok (.bipush (-2), 2) := by decide +kernel
theorem dX4_broken_10 : decode cX4_broken 10 = .ok (.ireturn, 1) := by decide +kernel
theorem dX4_broken_11 : decode cX4_broken 11 = .ok (.aload_n 0, 1) := by decide +kernel
theorem dX4_broken_12 : decode cX4_broken 12 = .ok (.aload_n 0, 1) := by decide +kernel
theorem dX4_broken_13 : decode cX4_broken 13 = .ok (.getfield 41, 3) := by decide +kernel
theorem dX4_broken_16 : decode cX4_broken 16 = .ok (.invokevirtual 98, 3) := by decide +kernel
theorem dX4_broken_19 : decode cX4_broken 19 = .ok (.invokevirtual 122, 3) := by decide +kernel
theorem dX4_broken_22 : decode cX4_broken 22 = .ok (.istore_n 2, 1) := by decide +kernel
theorem dX4_broken_23 : decode cX4_broken 23 = .ok (.iload_n 1, 1) := by decide +kernel
theorem dX4_broken_24 : decode cX4_broken 24 = .ok (.ifCond .ne 7, 3) := by decide +kernel
theorem dX4_broken_27 : decode cX4_broken 27 = .ok (.iload_n 2, 1) := by decide +kernel
theorem dX4_broken_28 : decode cX4_broken 28 = .ok (.goto 8, 3) := by decide +kernel
theorem dX4_broken_31 : decode cX4_broken 31 = .ok (.aload_n 0, 1) := by decide +kernel
theorem dX4_broken_32 : decode cX4_broken 32 = .ok (.iload_n 2, 1) := by decide +kernel
theorem dX4_broken_33 : decode cX4_broken 33 = .ok (.invokevirtual 126, 3) := by decide +kernel
theorem dX4_broken_36 : decode cX4_broken 36 = .ok (.ireturn, 1) := by decide +kernel
theorem dX4_free_0 : decode cX4_free 0 = .ok (.iload_n 1, 1) := by decide +kernel
theorem dX4_free_1 : decode cX4_free 1 = .ok (.bipush 8, 2) := by decide +kernel
theorem dX4_free_3 : decode cX4_free 3 = .ok (.invokestatic 62, 3) := by decide +kernel
theorem dX4_free_6 : decode cX4_free 6 = .ok (.ifCond .ne 6, 3) := by decide +kernel
theorem dX4_free_9 : decode cX4_free 9 = .ok (.bipush (-2), 2) := by decide +kernel
theorem dX4_free_11 : decode cX4_free 11 = .ok (.ireturn, 1) := by decide +kernel
theorem dX4_free_12 : decode cX4_free 12 = .ok (.aload_n 0, 1) := by decide +kernel
theorem dX4_free_13 : decode cX4_free 13 = .ok (.getfield 41, 3) := by decide +kernel
theorem dX4_free_16 : decode cX4_free 16 = .ok (.invokevirtual 98, 3) := by decide +kernel
theorem dX4_free_19 : decode cX4_free 19 = .ok (.astore_n 2, 1) := by decide +kernel
theorem dX4_free_20 : decode cX4_free 20 = .ok (.iconst 0, 1) := by decide +kernel
theorem dX4_free_21 : decode cX4_free 21 = .ok (.istore_n 3, 1) := by decide +kernel
theorem dX4_free_22 : decode cX4_free 22 = .ok (.iconst 0, 1) := by decide +kernel
theorem dX4_free_23 : decode cX4_free 23 = .ok (.istore 4, 2) := by decide +kernel
theorem dX4_free_25 : decode cX4_free 25 = .ok (.iload 4, 2) := by decide +kernel
theorem dX4_free_27 : decode cX4_free 27 = .ok (.bipush 28, 2) := by decide +kernel
theorem dX4_free_29 : decode cX4_free 29 = .ok (.if_icmp .ge 30, 3) := by decide +kernel
theorem dX4_free_32 : decode cX4_free 32 = .ok (.aload_n 2, 1) := by decide +kernel
theorem dX4_free_33 : decode cX4_free 33 = .ok (.aload_n 0, 1) := by decide +kernel
theorem dX4_free_34 : decode cX4_free 34 = .ok (.iload 4, 2) := by decide +kernel
theorem dX4_free_36 : decode cX4_free 36 = .ok (.invokevirtual 119, 3) := by decide +kernel
theorem dX4_free_39 : decode cX4_free 39 = .ok (.iload_n 1, 1) := by decide +kernel
theorem dX4_free_40 : decode cX4_free 40 = .ok (.invokevirtual 129, 3) := by decide +kernel
theorem dX4_free_43 : decode cX4_free 43 = .ok (.ifCond .ne 10, 3) := by decide +kernel
theorem dX4_free_46 : decode cX4_free 46 = .ok (.iload_n 3, 1) := by decide +kernel
theorem dX4_free_47 : decode cX4_free 47 = .ok (.iconst 1, 1) := by decide +kernel
theorem dX4_free_48 : decode cX4_free 48 = .ok (.iload 4, 2) := by decide +kernel
theorem dX4_free_50 : decode cX4_free 50 = .ok (.ishl, 1) := by decide +kernel
theorem dX4_free_51 : decode cX4_free 51 = .ok (.ior, 1) := by decide +kernel
theorem dX4_free_52 : decode cX4_free 52 = .ok (.istore_n 3, 1) := by decide +kernel
theorem dX4_free_53 : decode cX4_free 53 = .ok (.iinc 4 1, 3) := by decide +kernel
theorem dX4_free_56 : decode cX4_free 56 = .ok (.goto (-31), 3) := by decide +kernel
theorem dX4_free_59 : decode cX4_free 59 = .ok (.iload_n 3, 1) := by decide +kernel
theorem dX4_free_60 : decode cX4_free 60 = .ok (.ireturn, 1) := by decide +kernel
theorem dX4_clash_0 : decode cX4_clash 0 = .ok (.iload_n 1, 1) := by decide +kernel
theorem dX4_clash_1 : decode cX4_clash 1 = .ok (.iconst 4, 1) := by decide +kernel
theorem dX4_clash_2 : decode cX4_clash 2 = .ok (.invokestatic 62, 3) := by decide +kernel
theorem dX4_clash_5 : decode cX4_clash 5 = .ok (.ifCond .eq 17, 3) := by decide +kernel
theorem dX4_clash_8 : decode cX4_clash 8 = .ok (.aload_n 0, 1) := by decide +kernel
theorem dX4_clash_9 : decode cX4_clash 9 = .ok (.getfield 41, 3) := by decide +kernel
theorem dX4_clash_12 : decode cX4_clash 12 = .ok (.invokevirtual 98, 3) := by decide +kernel
theorem dX4_clash_15 : decode cX4_clash 15 = .ok (.iload_n 1, 1) := by decide +kernel
theorem dX4_clash_16 : decode cX4_clash 16 = .ok (.invokevirtual 132, 3) := by decide +kernel
theorem dX4_clash_19 : decode cX4_clash 19 = .ok (.goto 5, 3) := by decide +kernel
theorem dX4_clash_22 : decode cX4_clash 22 = .ok (.bipush (-2), 2) := by decide +kernel
theorem dX4_clash_24 : decode cX4_clash 24 = .ok (.ireturn, 1) := by decide +kernel
theorem dX4_pour_0 : decode cX4_pour 0 = .ok (.iload_n 1, 1) := by decide +kernel
theorem dX4_pour_1 : decode cX4_pour 1 = .ok (.invokestatic 135, 3) := by decide +kernel
theorem dX4_pour_4 : decode cX4_pour 4 = .ok (.ifCond .ne 6, 3) := by decide +kernel
theorem dX4_pour_7 : decode cX4_pour 7 = .ok (.bipush (-2), 2) := by decide +kernel
theorem dX4_pour_9 : decode cX4_pour 9 = .ok (.ireturn, 1) := by decide +kernel
theorem dX4_pour_10 : decode cX4_pour 10 = .ok (.aload_n 0, 1) := by decide +kernel
theorem dX4_pour_11 : decode cX4_pour 11 = .ok (.getfield 41, 3) := by decide +kernel
theorem dX4_pour_14 : decode cX4_pour 14 = .ok (.invokevirtual 98, 3) := by decide +kernel
theorem dX4_pour_17 : decode cX4_pour 17 = .ok (.astore_n 2, 1) := by decide +kernel
theorem dX4_pour_18 : decode cX4_pour 18 = .ok (.iconst 0, 1) := by decide +kernel
theorem dX4_pour_19 : decode cX4_pour 19 = .ok (.istore_n 3, 1) := by decide +kernel
theorem dX4_pour_20 : decode cX4_pour 20 = .ok (.bipush (-9), 2) := by decide +kernel
theorem dX4_pour_22 : decode cX4_pour 22 = .ok (.istore 4, 2) := by decide +kernel
theorem dX4_pour_24 : decode cX4_pour 24 = .ok (.iconst 0, 1) := by decide +kernel
theorem dX4_pour_25 : decode cX4_pour 25 = .ok (.istore 5, 2) := by decide +kernel
theorem dX4_pour_27 : decode cX4_pour 27 = .ok (.iload 5, 2) := by decide +kernel
theorem dX4_pour_29 : decode cX4_pour 29 = .ok (.iconst 4, 1) := by decide +kernel
theorem dX4_pour_30 : decode cX4_pour 30 = .ok (.if_icmp .ge 51, 3) := by decide +kernel
theorem dX4_pour_33 : decode cX4_pour 33 = .ok (.aload_n 2, 1) := by decide +kernel
theorem dX4_pour_34 : decode cX4_pour 34 = .ok (.getfield 116, 3) := by decide +kernel
theorem dX4_pour_37 : decode cX4_pour 37 = .ok (.iload 5, 2) := by decide +kernel
theorem dX4_pour_39 : decode cX4_pour 39 = .ok (.iaload, 1) := by decide +kernel
theorem dX4_pour_40 : decode cX4_pour 40 = .ok (.istore 6, 2) := by decide +kernel
theorem dX4_pour_42 : decode cX4_pour 42 = .ok (.iload 6, 2) := by decide +kernel
theorem dX4_pour_44 : decode cX4_pour 44 = .ok (.iload_n 1, 1) := by decide +kernel
theorem dX4_pour_45 : decode cX4_pour 45 = .ok (.iand, 1) := by decide +kernel
theorem dX4_pour_46 : decode cX4_pour 46 = .ok (.invokestatic 139, 3) := by decide +kernel
theorem dX4_pour_49 : decode cX4_pour 49 = .ok (.iload 6, 2) := by decide +kernel
theorem dX4_pour_51 : decode cX4_pour 51 = .ok (.iload_n 1, 1) := by decide +kernel
theorem dX4_pour_52 : decode cX4_pour 52 = .ok (.iconst (-1), 1) := by decide +kernel
theorem dX4_pour_53 : decode cX4_pour 53 = .ok (.ixor, 1) := by decide +kernel
theorem dX4_pour_54 : decode cX4_pour 54 = .ok (.iand, 1) := by decide +kernel
theorem dX4_pour_55 : decode cX4_pour 55 = .ok (.invokestatic 139, 3) := by decide +kernel
theorem dX4_pour_58 : decode cX4_pour 58 = .ok (.isub, 1) := by decide +kernel
theorem dX4_pour_59 : decode cX4_pour 59 = .ok (.istore 7, 2) := by decide +kernel
theorem dX4_pour_61 : decode cX4_pour 61 = .ok (.iload 7, 2) := by decide +kernel
theorem dX4_pour_63 : decode cX4_pour 63 = .ok (.iload 4, 2) := by decide +kernel
theorem dX4_pour_65 : decode cX4_pour 65 = .ok (.if_icmp .le 10, 3) := by decide +kernel
theorem dX4_pour_68 : decode cX4_pour 68 = .ok (.iload 7, 2) := by decide +kernel
theorem dX4_pour_70 : decode cX4_pour 70 = .ok (.istore 4, 2) := by decide +kernel
theorem dX4_pour_72 : decode cX4_pour 72 = .ok (.iload 5, 2) := by decide +kernel
theorem dX4_pour_74 : decode cX4_pour 74 = .ok (.istore_n 3, 1) := by decide +kernel
theorem dX4_pour_75 : decode cX4_pour 75 = .ok (.iinc 5 1, 3) := by decide +kernel
theorem dX4_pour_78 : decode cX4_pour 78 = .ok (.goto (-51), 3) := by decide +kernel
theorem dX4_pour_81 : decode cX4_pour 81 = .ok (.iload_n 3, 1) := by decide +kernel
theorem dX4_pour_82 : decode cX4_pour 82 = .ok (.ireturn, 1) := by decide +kernel
theorem dX4_strain_0 : decode cX4_strain 0 = .ok (.iload_n 1, 1) := by decide +kernel
theorem dX4_strain_1 : decode cX4_strain 1 = .ok (.iconst 4, 1) := by decide +kernel
theorem dX4_strain_2 : decode cX4_strain 2 = .ok (.invokestatic 62, 3) := by decide +kernel
theorem dX4_strain_5 : decode cX4_strain 5 = .ok (.ifCond .eq 32, 3) := by decide +kernel
theorem dX4_strain_8 : decode cX4_strain 8 = .ok (.iload_n 2, 1) := by decide +kernel
theorem dX4_strain_9 : decode cX4_strain 9 = .ok (.invokestatic 135, 3) := by decide +kernel
theorem dX4_strain_12 : decode cX4_strain 12 = .ok (.ifCond .eq 25, 3) := by decide +kernel
theorem dX4_strain_15 : decode cX4_strain 15 = .ok (.iload_n 3, 1) := by decide +kernel
theorem dX4_strain_16 : decode cX4_strain 16 = .ok (.invokestatic 135, 3) := by decide +kernel
theorem dX4_strain_19 : decode cX4_strain 19 = .ok (.ifCond .eq 18, 3) := by decide +kernel
theorem dX4_strain_22 : decode cX4_strain 22 = .ok (.iload_n 2, 1) := by decide +kernel
theorem dX4_strain_23 : decode cX4_strain 23 = .ok (.iload_n 3, 1) := by decide +kernel
theorem dX4_strain_24 : decode cX4_strain 24 = .ok (.iand, 1) := by decide +kernel
theorem dX4_strain_25 : decode cX4_strain 25 = .ok (.ifCond .ne 12, 3) := by decide +kernel
theorem dX4_strain_28 : decode cX4_strain 28 = .ok (.iload 4, 2) := by decide +kernel
theorem dX4_strain_30 : decode cX4_strain 30 = .ok (.iconst 2, 1) := by decide +kernel
theorem dX4_strain_31 : decode cX4_strain 31 = .ok (.invokestatic 62, 3) := by decide +kernel
theorem dX4_strain_34 : decode cX4_strain 34 = .ok (.ifCond .ne 6, 3) := by decide +kernel
theorem dX4_strain_37 : decode cX4_strain 37 = .ok (.bipush (-2), 2) := by decide +kernel
theorem dX4_strain_39 : decode cX4_strain 39 = .ok (.ireturn, 1) := by decide +kernel
theorem dX4_strain_40 : decode cX4_strain 40 = .ok (.aload_n 0, 1) := by decide +kernel
theorem dX4_strain_41 : decode cX4_strain 41 = .ok (.getfield 41, 3) := by decide +kernel
theorem dX4_strain_44 : decode cX4_strain 44 = .ok (.invokevirtual 98, 3) := by decide +kernel
theorem dX4_strain_47 : decode cX4_strain 47 = .ok (.iload_n 1, 1) := by decide +kernel
theorem dX4_strain_48 : decode cX4_strain 48 = .ok (.iload_n 2, 1) := by decide +kernel
theorem dX4_strain_49 : decode cX4_strain 49 = .ok (.iload_n 3, 1) := by decide +kernel
theorem dX4_strain_50 : decode cX4_strain 50 = .ok (.invokevirtual 144, 3) := by decide +kernel
theorem dX4_strain_53 : decode cX4_strain 53 = .ok (.iload 4, 2) := by decide +kernel
theorem dX4_strain_55 : decode cX4_strain 55 = .ok (.invokestatic 148, 3) := by decide +kernel
theorem dX4_strain_58 : decode cX4_strain 58 = .ok (.ireturn, 1) := by decide +kernel
theorem dX4_strike_0 : decode cX4_strike 0 = .ok (.iload_n 1, 1) := by decide +kernel
theorem dX4_strike_1 : decode cX4_strike 1 = .ok (.iconst 4, 1) := by decide +kernel
theorem dX4_strike_2 : decode cX4_strike 2 = .ok (.invokestatic 62, 3) := by decide +kernel
theorem dX4_strike_5 : decode cX4_strike 5 = .ok (.ifCond .eq 18, 3) := by decide +kernel
theorem dX4_strike_8 : decode cX4_strike 8 = .ok (.iload_n 2, 1) := by decide +kernel
theorem dX4_strike_9 : decode cX4_strike 9 = .ok (.invokestatic 135, 3) := by decide +kernel
theorem dX4_strike_12 : decode cX4_strike 12 = .ok (.ifCond .eq 11, 3) := by decide +kernel
theorem dX4_strike_15 : decode cX4_strike 15 = .ok (.iload_n 3, 1) := by decide +kernel
theorem dX4_strike_16 : decode cX4_strike 16 = .ok (.iconst 2, 1) := by decide +kernel
theorem dX4_strike_17 : decode cX4_strike 17 = .ok (.invokestatic 62, 3) := by decide +kernel
theorem dX4_strike_20 : decode cX4_strike 20 = .ok (.ifCond .ne 6, 3) := by decide +kernel
theorem dX4_strike_23 : decode cX4_strike 23 = .ok (.bipush (-2), 2) := by decide +kernel
theorem dX4_strike_25 : decode cX4_strike 25 = .ok (.ireturn, 1) := by decide +kernel
theorem dX4_strike_26 : decode cX4_strike 26 = .ok (.aload_n 0, 1) := by decide +kernel
theorem dX4_strike_27 : decode cX4_strike 27 = .ok (.getfield 41, 3) := by decide +kernel
theorem dX4_strike_30 : decode cX4_strike 30 = .ok (.invokevirtual 98, 3) := by decide +kernel
theorem dX4_strike_33 : decode cX4_strike 33 = .ok (.iload_n 1, 1) := by decide +kernel
theorem dX4_strike_34 : decode cX4_strike 34 = .ok (.iload_n 2, 1) := by decide +kernel
theorem dX4_strike_35 : decode cX4_strike 35 = .ok (.invokevirtual 151, 3) := by decide +kernel
theorem dX4_strike_38 : decode cX4_strike 38 = .ok (.iload_n 3, 1) := by decide +kernel
theorem dX4_strike_39 : decode cX4_strike 39 = .ok (.invokestatic 148, 3) := by decide +kernel
theorem dX4_strike_42 : decode cX4_strike 42 = .ok (.ireturn, 1) := by decide +kernel
theorem dX4_place_0 : decode cX4_place 0 = .ok (.iload_n 1, 1) := by decide +kernel
theorem dX4_place_1 : decode cX4_place 1 = .ok (.iconst 4, 1) := by decide +kernel
theorem dX4_place_2 : decode cX4_place 2 = .ok (.invokestatic 62, 3) := by decide +kernel
theorem dX4_place_5 : decode cX4_place 5 = .ok (.ifCond .eq 27, 3) := by decide +kernel
theorem dX4_place_8 : decode cX4_place 8 = .ok (.iload_n 2, 1) := by decide +kernel
theorem dX4_place_9 : decode cX4_place 9 = .ok (.bipush 8, 2) := by decide +kernel
theorem dX4_place_11 : decode cX4_place 11 = .ok (.invokestatic 62, 3) := by decide +kernel
theorem dX4_place_14 : decode cX4_place 14 = .ok (.ifCond .eq 18, 3) := by decide +kernel
theorem dX4_place_17 : decode cX4_place 17 = .ok (.aload_n 0, 1) := by decide +kernel
theorem dX4_place_18 : decode cX4_place 18 = .ok (.getfield 41, 3) := by decide +kernel
theorem dX4_place_21 : decode cX4_place 21 = .ok (.invokevirtual 98, 3) := by decide +kernel
theorem dX4_place_24 : decode cX4_place 24 = .ok (.iload_n 1, 1) := by decide +kernel
theorem dX4_place_25 : decode cX4_place 25 = .ok (.iload_n 2, 1) := by decide +kernel
theorem dX4_place_26 : decode cX4_place 26 = .ok (.invokevirtual 154, 3) := by decide +kernel
theorem dX4_place_29 : decode cX4_place 29 = .ok (.goto 5, 3) := by decide +kernel
theorem dX4_place_32 : decode cX4_place 32 = .ok (.bipush (-2), 2) := by decide +kernel
theorem dX4_place_34 : decode cX4_place 34 = .ok (.ireturn, 1) := by decide +kernel
theorem dX4_sides_0 : decode cX4_sides 0 = .ok (.iload_n 1, 1) := by decide +kernel
theorem dX4_sides_1 : decode cX4_sides 1 = .ok (.bipush 8, 2) := by decide +kernel
theorem dX4_sides_3 : decode cX4_sides 3 = .ok (.invokestatic 62, 3) := by decide +kernel
theorem dX4_sides_6 : decode cX4_sides 6 = .ok (.ifCond .eq 11, 3) := by decide +kernel
theorem dX4_sides_9 : decode cX4_sides 9 = .ok (.iload_n 2, 1) := by decide +kernel
theorem dX4_sides_10 : decode cX4_sides 10 = .ok (.iconst 2, 1) := by decide +kernel
theorem dX4_sides_11 : decode cX4_sides 11 = .ok (.invokestatic 62, 3) := by decide +kernel
theorem dX4_sides_14 : decode cX4_sides 14 = .ok (.ifCond .ne 6, 3) := by decide +kernel
theorem dX4_sides_17 : decode cX4_sides 17 = .ok (.bipush (-2), 2) := by decide +kernel
theorem dX4_sides_19 : decode cX4_sides 19 = .ok (.ireturn, 1) := by decide +kernel
theorem dX4_sides_20 : decode cX4_sides 20 = .ok (.aload_n 0, 1) := by decide +kernel
theorem dX4_sides_21 : decode cX4_sides 21 = .ok (.getfield 41, 3) := by decide +kernel
theorem dX4_sides_24 : decode cX4_sides 24 = .ok (.invokevirtual 98, 3) := by decide +kernel
theorem dX4_sides_27 : decode cX4_sides 27 = .ok (.iload_n 1, 1) := by decide +kernel
theorem dX4_sides_28 : decode cX4_sides 28 = .ok (.invokevirtual 157, 3) := by decide +kernel
theorem dX4_sides_31 : decode cX4_sides 31 = .ok (.istore_n 3, 1) := by decide +kernel
theorem dX4_sides_32 : decode cX4_sides 32 = .ok (.iload_n 2, 1) := by decide +kernel
theorem dX4_sides_33 : decode cX4_sides 33 = .ok (.iconst 1, 1) := by decide +kernel
theorem dX4_sides_34 : decode cX4_sides 34 = .ok (.if_icmp .ne 5, 3) := by decide +kernel
theorem dX4_sides_37 : decode cX4_sides 37 = .ok (.iload_n 3, 1) := by decide +kernel
theorem dX4_sides_38 : decode cX4_sides 38 = .ok (.ireturn, 1) := by decide +kernel
theorem dX4_sides_39 : decode cX4_sides 39 = .ok (.iload_n 3, 1) := by decide +kernel
theorem dX4_sides_40 : decode cX4_sides 40 = .ok (.iconst (-1), 1) := by decide +kernel
theorem dX4_sides_41 : decode cX4_sides 41 = .ok (.if_icmp .ne 7, 3) := by decide +kernel
theorem dX4_sides_44 : decode cX4_sides 44 = .ok (.iconst 0, 1) := by decide +kernel
theorem dX4_sides_45 : decode cX4_sides 45 = .ok (.goto 4, 3) := by decide +kernel
theorem dX4_sides_48 : decode cX4_sides 48 = .ok (.iconst 1, 1) := by decide +kernel
theorem dX4_sides_49 : decode cX4_sides 49 = .ok (.ireturn, 1) := by decide +kernel
theorem dX4_read_0 : decode cX4_read 0 = .ok (.iload_n 1, 1) := by decide +kernel
theorem dX4_read_1 : decode cX4_read 1 = .ok (.iconst 4, 1) := by decide +kernel
theorem dX4_read_2 : decode cX4_read 2 = .ok (.invokestatic 62, 3) := by decide +kernel
theorem dX4_read_5 : decode cX4_read 5 = .ok (.ifCond .eq 22, 3) := by decide +kernel
theorem dX4_read_8 : decode cX4_read 8 = .ok (.iload_n 2, 1) := by decide +kernel
theorem dX4_read_9 : decode cX4_read 9 = .ok (.invokestatic 135, 3) := by decide +kernel
theorem dX4_read_12 : decode cX4_read 12 = .ok (.ifCond .eq 15, 3) := by decide +kernel
theorem dX4_read_15 : decode cX4_read 15 = .ok (.aload_n 0, 1) := by decide +kernel
theorem dX4_read_16 : decode cX4_read 16 = .ok (.getfield 33, 3) := by decide +kernel
theorem dX4_read_19 : decode cX4_read 19 = .ok (.iload_n 1, 1) := by decide +kernel
theorem dX4_read_20 : decode cX4_read 20 = .ok (.iload_n 2, 1) := by decide +kernel
theorem dX4_read_21 : decode cX4_read 21 = .ok (.invokevirtual 95, 3) := by decide +kernel
theorem dX4_read_24 : decode cX4_read 24 = .ok (.goto 5, 3) := by decide +kernel
theorem dX4_read_27 : decode cX4_read 27 = .ok (.bipush (-2), 2) := by decide +kernel
theorem dX4_read_29 : decode cX4_read 29 = .ok (.ireturn, 1) := by decide +kernel
theorem dX4_forget_0 : decode cX4_forget 0 = .ok (.aload_n 0, 1) := by decide +kernel
theorem dX4_forget_1 : decode cX4_forget 1 = .ok (.getfield 33, 3) := by decide +kernel
theorem dX4_forget_4 : decode cX4_forget 4 = .ok (.invokevirtual 160, 3) := by decide +kernel
theorem dX4_forget_7 : decode cX4_forget 7 = .ok (.ireturn, 1) := by decide +kernel
theorem dX4_take_0 : decode cX4_take 0 = .ok (.iload_n 1, 1) := by decide +kernel
theorem dX4_take_1 : decode cX4_take 1 = .ok (.iconst 4, 1) := by decide +kernel
theorem dX4_take_2 : decode cX4_take 2 = .ok (.invokestatic 62, 3) := by decide +kernel
theorem dX4_take_5 : decode cX4_take 5 = .ok (.ifCond .ne 6, 3) := by decide +kernel
theorem dX4_take_8 : decode cX4_take 8 = .ok (.bipush (-2), 2) := by decide +kernel
theorem dX4_take_10 : decode cX4_take 10 = .ok (.ireturn, 1) := by decide +kernel
theorem dX4_take_11 : decode cX4_take 11 = .ok (.aload_n 0, 1) := by decide +kernel
theorem dX4_take_12 : decode cX4_take 12 = .ok (.getfield 47, 3) := by decide +kernel
theorem dX4_take_15 : decode cX4_take 15 = .ok (.iload_n 1, 1) := by decide +kernel
theorem dX4_take_16 : decode cX4_take 16 = .ok (.aaload, 1) := by decide +kernel
theorem dX4_take_17 : decode cX4_take 17 = .ok (.astore_n 2, 1) := by decide +kernel
theorem dX4_take_18 : decode cX4_take 18 = .ok (.aload_n 2, 1) := by decide +kernel
theorem dX4_take_19 : decode cX4_take 19 = .ok (.invokevirtual 161, 3) := by decide +kernel
theorem dX4_take_22 : decode cX4_take 22 = .ok (.ifCond .eq 9, 3) := by decide +kernel
theorem dX4_take_25 : decode cX4_take 25 = .ok (.aload_n 0, 1) := by decide +kernel
theorem dX4_take_26 : decode cX4_take 26 = .ok (.iconst 1, 1) := by decide +kernel
theorem dX4_take_27 : decode cX4_take 27 = .ok (.invokevirtual 165, 3) := by decide +kernel
theorem dX4_take_30 : decode cX4_take 30 = .ok (.ireturn, 1) := by decide +kernel
theorem dX4_take_31 : decode cX4_take 31 = .ok (.iconst 0, 1) := by decide +kernel
theorem dX4_take_32 : decode cX4_take 32 = .ok (.istore_n 3, 1) := by decide +kernel
theorem dX4_take_33 : decode cX4_take 33 = .ok (.iconst 0, 1) := by decide +kernel
theorem dX4_take_34 : decode cX4_take 34 = .ok (.istore 4, 2) := by decide +kernel
theorem dX4_take_36 : decode cX4_take 36 = .ok (.iload 4, 2) := by decide +kernel
theorem dX4_take_38 : decode cX4_take 38 = .ok (.iconst 1, 1) := by decide +kernel
theorem dX4_take_39 : decode cX4_take 39 = .ok (.iadd, 1) := by decide +kernel
theorem dX4_take_40 : decode cX4_take 40 = .ok (.aload_n 2, 1) := by decide +kernel
theorem dX4_take_41 : decode cX4_take 41 = .ok (.getfield 168, 3) := by decide +kernel
theorem dX4_take_44 : decode cX4_take 44 = .ok (.if_icmp .ge 38, 3) := by decide +kernel
theorem dX4_take_47 : decode cX4_take 47 = .ok (.aload_n 0, 1) := by decide +kernel
theorem dX4_take_48 : decode cX4_take 48 = .ok (.aload_n 2, 1) := by decide +kernel
theorem dX4_take_49 : decode cX4_take 49 = .ok (.getfield 171, 3) := by decide +kernel
theorem dX4_take_52 : decode cX4_take 52 = .ok (.iload 4, 2) := by decide +kernel
theorem dX4_take_54 : decode cX4_take 54 = .ok (.iaload, 1) := by decide +kernel
theorem dX4_take_55 : decode cX4_take 55 = .ok (.aload_n 2, 1) := by decide +kernel
theorem dX4_take_56 : decode cX4_take 56 = .ok (.getfield 171, 3) := by decide +kernel
theorem dX4_take_59 : decode cX4_take 59 = .ok (.iload 4, 2) := by decide +kernel
theorem dX4_take_61 : decode cX4_take 61 = .ok (.iconst 1, 1) := by decide +kernel
theorem dX4_take_62 : decode cX4_take 62 = .ok (.iadd, 1) := by decide +kernel
theorem dX4_take_63 : decode cX4_take 63 = .ok (.iaload, 1) := by decide +kernel
theorem dX4_take_64 : decode cX4_take 64 = .ok (.invokevirtual 174, 3) := by decide +kernel
theorem dX4_take_67 : decode cX4_take 67 = .ok (.ifCond .ge 6, 3) := by decide +kernel
theorem dX4_take_70 : decode cX4_take 70 = .ok (.goto 12, 3) := by decide +kernel
theorem dX4_take_73 : decode cX4_take 73 = .ok (.iinc 3 1, 3) := by decide +kernel
theorem dX4_take_76 : decode cX4_take 76 = .ok (.iinc 4 2, 3) := by decide +kernel
theorem dX4_take_79 : decode cX4_take 79 = .ok (.goto (-43), 3) := by decide +kernel
theorem dX4_take_82 : decode cX4_take 82 = .ok (.iload_n 3, 1) := by decide +kernel
theorem dX4_take_83 : decode cX4_take 83 = .ok (.ireturn, 1) := by decide +kernel
theorem dX4_fits_0 : decode cX4_fits 0 = .ok (.iload_n 1, 1) := by decide +kernel
theorem dX4_fits_1 : decode cX4_fits 1 = .ok (.iconst 3, 1) := by decide +kernel
theorem dX4_fits_2 : decode cX4_fits 2 = .ok (.invokestatic 62, 3) := by decide +kernel
theorem dX4_fits_5 : decode cX4_fits 5 = .ok (.ifCond .ne 6, 3) := by decide +kernel
theorem dX4_fits_8 : decode cX4_fits 8 = .ok (.bipush (-2), 2) := by decide +kernel
theorem dX4_fits_10 : decode cX4_fits 10 = .ok (.ireturn, 1) := by decide +kernel
theorem dX4_fits_11 : decode cX4_fits 11 = .ok (.aload_n 0, 1) := by decide +kernel
theorem dX4_fits_12 : decode cX4_fits 12 = .ok (.getfield 41, 3) := by decide +kernel
theorem dX4_fits_15 : decode cX4_fits 15 = .ok (.invokevirtual 98, 3) := by decide +kernel
theorem dX4_fits_18 : decode cX4_fits 18 = .ok (.astore_n 2, 1) := by decide +kernel
theorem dX4_fits_19 : decode cX4_fits 19 = .ok (.iload_n 1, 1) := by decide +kernel
theorem dX4_fits_20 : decode cX4_fits 20 = .ok (.iconst 1, 1) := by decide +kernel
theorem dX4_fits_21 : decode cX4_fits 21 = .ok (.if_icmp .ne 13, 3) := by decide +kernel
theorem dX4_fits_24 : decode cX4_fits 24 = .ok (.aload_n 0, 1) := by decide +kernel
theorem dX4_fits_25 : decode cX4_fits 25 = .ok (.getfield 14, 3) := by decide +kernel
theorem dX4_fits_28 : decode cX4_fits 28 = .ok (.getfield 88, 3) := by decide +kernel
theorem dX4_fits_31 : decode cX4_fits 31 = .ok (.goto 10, 3) := by decide +kernel
theorem dX4_fits_34 : decode cX4_fits 34 = .ok (.aload_n 0, 1) := by decide +kernel
theorem dX4_fits_35 : decode cX4_fits 35 = .ok (.getfield 18, 3) := by decide +kernel
theorem dX4_fits_38 : decode cX4_fits 38 = .ok (.getfield 88, 3) := by decide +kernel
theorem dX4_fits_41 : decode cX4_fits 41 = .ok (.istore_n 3, 1) := by decide +kernel
theorem dX4_fits_42 : decode cX4_fits 42 = .ok (.iconst 0, 1) := by decide +kernel
theorem dX4_fits_43 : decode cX4_fits 43 = .ok (.istore 4, 2) := by decide +kernel
theorem dX4_fits_45 : decode cX4_fits 45 = .ok (.iconst 0, 1) := by decide +kernel
theorem dX4_fits_46 : decode cX4_fits 46 = .ok (.istore 5, 2) := by decide +kernel
theorem dX4_fits_48 : decode cX4_fits 48 = .ok (.iload 5, 2) := by decide +kernel
theorem dX4_fits_50 : decode cX4_fits 50 = .ok (.iload_n 3, 1) := by decide +kernel
theorem dX4_fits_51 : decode cX4_fits 51 = .ok (.if_icmp .ge 29, 3) := by decide +kernel
theorem dX4_fits_54 : decode cX4_fits 54 = .ok (.aload_n 0, 1) := by decide +kernel
theorem dX4_fits_55 : decode cX4_fits 55 = .ok (.aload_n 2, 1) := by decide +kernel
theorem dX4_fits_56 : decode cX4_fits 56 = .ok (.iload_n 1, 1) := by decide +kernel
theorem dX4_fits_57 : decode cX4_fits 57 = .ok (.iload 5, 2) := by decide +kernel
theorem dX4_fits_59 : decode cX4_fits 59 = .ok (.invokevirtual 177, 3) := by decide +kernel
theorem dX4_fits_62 : decode cX4_fits 62 = .ok (.ifCond .eq 12, 3) := by decide +kernel
theorem dX4_fits_65 : decode cX4_fits 65 = .ok (.iload 4, 2) := by decide +kernel
theorem dX4_fits_67 : decode cX4_fits 67 = .ok (.iconst 1, 1) := by decide +kernel
theorem dX4_fits_68 : decode cX4_fits 68 = .ok (.iload 5, 2) := by decide +kernel
theorem dX4_fits_70 : decode cX4_fits 70 = .ok (.ishl, 1) := by decide +kernel
theorem dX4_fits_71 : decode cX4_fits 71 = .ok (.ior, 1) := by decide +kernel
theorem dX4_fits_72 : decode cX4_fits 72 = .ok (.istore 4, 2) := by decide +kernel
theorem dX4_fits_74 : decode cX4_fits 74 = .ok (.iinc 5 1, 3) := by decide +kernel
theorem dX4_fits_77 : decode cX4_fits 77 = .ok (.goto (-29), 3) := by decide +kernel
theorem dX4_fits_80 : decode cX4_fits 80 = .ok (.iload 4, 2) := by decide +kernel
theorem dX4_fits_82 : decode cX4_fits 82 = .ok (.ireturn, 1) := by decide +kernel
theorem dX4_sinks_0 : decode cX4_sinks 0 = .ok (.iload_n 1, 1) := by decide +kernel
theorem dX4_sinks_1 : decode cX4_sinks 1 = .ok (.bipush 17, 2) := by decide +kernel
theorem dX4_sinks_3 : decode cX4_sinks 3 = .ok (.invokestatic 62, 3) := by decide +kernel
theorem dX4_sinks_6 : decode cX4_sinks 6 = .ok (.ifCond .eq 29, 3) := by decide +kernel
theorem dX4_sinks_9 : decode cX4_sinks 9 = .ok (.iload_n 2, 1) := by decide +kernel
theorem dX4_sinks_10 : decode cX4_sinks 10 = .ok (.iconst 4, 1) := by decide +kernel
theorem dX4_sinks_11 : decode cX4_sinks 11 = .ok (.invokestatic 62, 3) := by decide +kernel
theorem dX4_sinks_14 : decode cX4_sinks 14 = .ok (.ifCond .eq 21, 3) := by decide +kernel
theorem dX4_sinks_17 : decode cX4_sinks 17 = .ok (.iload_n 3, 1) := by decide +kernel
theorem dX4_sinks_18 : decode cX4_sinks 18 = .ok (.bipush 8, 2) := by decide +kernel
theorem dX4_sinks_20 : decode cX4_sinks 20 = .ok (.invokestatic 62, 3) := by decide +kernel
theorem dX4_sinks_23 : decode cX4_sinks 23 = .ok (.ifCond .eq 12, 3) := by decide +kernel
theorem dX4_sinks_26 : decode cX4_sinks 26 = .ok (.iload 4, 2) := by decide +kernel
theorem dX4_sinks_28 : decode cX4_sinks 28 = .ok (.iconst 2, 1) := by decide +kernel
theorem dX4_sinks_29 : decode cX4_sinks 29 = .ok (.invokestatic 62, 3) := by decide +kernel
theorem dX4_sinks_32 : decode cX4_sinks 32 = .ok (.ifCond .ne 7, 3) := by decide +kernel
theorem dX4_sinks_35 : decode cX4_sinks 35 = .ok (.ldc2_w 181, 3) := by decide +kernel
theorem dX4_sinks_38 : decode cX4_sinks 38 = .ok (.lreturn, 1) := by decide +kernel
theorem dX4_sinks_39 : decode cX4_sinks 39 = .ok (.aload_n 0, 1) := by decide +kernel
theorem dX4_sinks_40 : decode cX4_sinks 40 = .ok (.getfield 41, 3) := by decide +kernel
theorem dX4_sinks_43 : decode cX4_sinks 43 = .ok (.invokevirtual 98, 3) := by decide +kernel
theorem dX4_sinks_46 : decode cX4_sinks 46 = .ok (.iload_n 1, 1) := by decide +kernel
theorem dX4_sinks_47 : decode cX4_sinks 47 = .ok (.iload_n 2, 1) := by decide +kernel
theorem dX4_sinks_48 : decode cX4_sinks 48 = .ok (.iload_n 3, 1) := by decide +kernel
theorem dX4_sinks_49 : decode cX4_sinks 49 = .ok (.invokevirtual 183, 3) := by decide +kernel
theorem dX4_sinks_52 : decode cX4_sinks 52 = .ok (.lstore 5, 2) := by decide +kernel
theorem dX4_sinks_54 : decode cX4_sinks 54 = .ok (.iconst 4, 1) := by decide +kernel
theorem dX4_sinks_55 : decode cX4_sinks 55 = .ok (.aload_n 0, 1) := by decide +kernel
theorem dX4_sinks_56 : decode cX4_sinks 56 = .ok (.getfield 14, 3) := by decide +kernel
theorem dX4_sinks_59 : decode cX4_sinks 59 = .ok (.getfield 88, 3) := by decide +kernel
theorem dX4_sinks_62 : decode cX4_sinks 62 = .ok (.imul, 1) := by decide +kernel
theorem dX4_sinks_63 : decode cX4_sinks 63 = .ok (.istore 7, 2) := by decide +kernel
theorem dX4_sinks_65 : decode cX4_sinks 65 = .ok (.lload 5, 2) := by decide +kernel
theorem dX4_sinks_67 : decode cX4_sinks 67 = .ok (.invokestatic 187, 3) := by decide +kernel
theorem dX4_sinks_70 : decode cX4_sinks 70 = .ok (.iload 7, 2) := by decide +kernel
theorem dX4_sinks_72 : decode cX4_sinks 72 = .ok (.invokestatic 193, 3) := by decide +kernel
theorem dX4_sinks_75 : decode cX4_sinks 75 = .ok (.istore 8, 2) := by decide +kernel
theorem dX4_sinks_77 : decode cX4_sinks 77 = .ok (.iload 4, 2) := by decide +kernel
theorem dX4_sinks_79 : decode cX4_sinks 79 = .ok (.ifCond .ne 11, 3) := by decide +kernel
theorem dX4_sinks_82 : decode cX4_sinks 82 = .ok (.lload 5, 2) := by decide +kernel
theorem dX4_sinks_84 : decode cX4_sinks 84 = .ok (.iload 8, 2) := by decide +kernel
theorem dX4_sinks_86 : decode cX4_sinks 86 = .ok (.lshr, 1) := by decide +kernel
theorem dX4_sinks_87 : decode cX4_sinks 87 = .ok (.goto 10, 3) := by decide +kernel
theorem dX4_sinks_90 : decode cX4_sinks 90 = .ok (.lconst 1, 1) := by decide +kernel
theorem dX4_sinks_91 : decode cX4_sinks 91 = .ok (.iload 7, 2) := by decide +kernel
theorem dX4_sinks_93 : decode cX4_sinks 93 = .ok (.iload 8, 2) := by decide +kernel
theorem dX4_sinks_95 : decode cX4_sinks 95 = .ok (.isub, 1) := by decide +kernel
theorem dX4_sinks_96 : decode cX4_sinks 96 = .ok (.lshl, 1) := by decide +kernel
theorem dX4_sinks_97 : decode cX4_sinks 97 = .ok (.lreturn, 1) := by decide +kernel
theorem dX4_mornings_0 : decode cX4_mornings 0 = .ok (.iload_n 2, 1) := by decide +kernel
theorem dX4_mornings_1 : decode cX4_mornings 1 = .ok (.iconst 1, 1) := by decide +kernel
theorem dX4_mornings_2 : decode cX4_mornings 2 = .ok (.if_icmp .lt 18, 3) := by decide +kernel
theorem dX4_mornings_5 : decode cX4_mornings 5 = .ok (.iload_n 2, 1) := by decide +kernel
theorem dX4_mornings_6 : decode cX4_mornings 6 = .ok (.bipush 99, 2) := by decide +kernel
theorem dX4_mornings_8 : decode cX4_mornings 8 = .ok (.if_icmp .gt 12, 3) := by decide +kernel
theorem dX4_mornings_11 : decode cX4_mornings 11 = .ok (.iload_n 3, 1) := by decide +kernel
theorem dX4_mornings_12 : decode cX4_mornings 12 = .ok (.bipush 8, 2) := by decide +kernel
theorem dX4_mornings_14 : decode cX4_mornings 14 = .ok (.invokestatic 62, 3) := by decide +kernel
theorem dX4_mornings_17 : decode cX4_mornings 17 = .ok (.ifCond .ne 6, 3) := by decide +kernel
theorem dX4_mornings_20 : decode cX4_mornings 20 = .ok (.bipush (-2), 2) := by decide +kernel
theorem dX4_mornings_22 : decode cX4_mornings 22 = .ok (.ireturn, 1) := by decide +kernel
theorem dX4_mornings_23 : decode cX4_mornings 23 = .ok (.aload_n 0, 1) := by decide +kernel
theorem dX4_mornings_24 : decode cX4_mornings 24 = .ok (.getfield 41, 3) := by decide +kernel
theorem dX4_mornings_27 : decode cX4_mornings 27 = .ok (.invokevirtual 98, 3) := by decide +kernel
theorem dX4_mornings_30 : decode cX4_mornings 30 = .ok (.astore 4, 2) := by decide +kernel
theorem dX4_mornings_32 : decode cX4_mornings 32 = .ok (.iload_n 1, 1) := by decide +kernel
theorem dX4_mornings_33 : decode cX4_mornings 33 = .ok (.istore 5, 2) := by decide +kernel
theorem dX4_mornings_35 : decode cX4_mornings 35 = .ok (.iconst 0, 1) := by decide +kernel
theorem dX4_mornings_36 : decode cX4_mornings 36 = .ok (.istore 6, 2) := by decide +kernel
theorem dX4_mornings_38 : decode cX4_mornings 38 = .ok (.iconst 0, 1) := by decide +kernel
theorem dX4_mornings_39 : decode cX4_mornings 39 = .ok (.istore 7, 2) := by decide +kernel
theorem dX4_mornings_41 : decode cX4_mornings 41 = .ok (.iload 7, 2) := by decide +kernel
theorem dX4_mornings_43 : decode cX4_mornings 43 = .ok (.iload_n 2, 1) := by decide +kernel
theorem dX4_mornings_44 : decode cX4_mornings 44 = .ok (.if_icmp .ge 39, 3) := by decide +kernel
theorem dX4_mornings_47 : decode cX4_mornings 47 = .ok (.ldc 198, 2) := by decide +kernel
theorem dX4_mornings_49 : decode cX4_mornings 49 = .ok (.iload 5, 2) := by decide +kernel
theorem dX4_mornings_51 : decode cX4_mornings 51 = .ok (.imul, 1) := by decide +kernel
theorem dX4_mornings_52 : decode cX4_mornings 52 = .ok (.sipush 12345, 3) := by decide +kernel
theorem dX4_mornings_55 : decode cX4_mornings 55 = .ok (.iadd, 1) := by decide +kernel
theorem dX4_mornings_56 : decode cX4_mornings 56 = .ok (.istore 5, 2) := by decide +kernel
theorem dX4_mornings_58 : decode cX4_mornings 58 = .ok (.aload 4, 2) := by decide +kernel
theorem dX4_mornings_60 : decode cX4_mornings 60 = .ok (.iload 5, 2) := by decide +kernel
theorem dX4_mornings_62 : decode cX4_mornings 62 = .ok (.bipush 16, 2) := by decide +kernel
theorem dX4_mornings_64 : decode cX4_mornings 64 = .ok (.iushr, 1) := by decide +kernel
theorem dX4_mornings_65 : decode cX4_mornings 65 = .ok (.iconst 4, 1) := by decide +kernel
theorem dX4_mornings_66 : decode cX4_mornings 66 = .ok (.irem, 1) := by decide +kernel
theorem dX4_mornings_67 : decode cX4_mornings 67 = .ok (.iload_n 3, 1) := by decide +kernel
theorem dX4_mornings_68 : decode cX4_mornings 68 = .ok (.invokevirtual 129, 3) := by decide +kernel
theorem dX4_mornings_71 : decode cX4_mornings 71 = .ok (.ifCond .eq 6, 3) := by decide +kernel
theorem dX4_mornings_74 : decode cX4_mornings 74 = .ok (.iinc 6 1, 3) := by decide +kernel
theorem dX4_mornings_77 : decode cX4_mornings 77 = .ok (.iinc 7 1, 3) := by decide +kernel
theorem dX4_mornings_80 : decode cX4_mornings 80 = .ok (.goto (-39), 3) := by decide +kernel
theorem dX4_mornings_83 : decode cX4_mornings 83 = .ok (.iload 6, 2) := by decide +kernel
theorem dX4_mornings_85 : decode cX4_mornings 85 = .ok (.ireturn, 1) := by decide +kernel
theorem dX4_sheet_0 : decode cX4_sheet 0 = .ok (.iload_n 1, 1) := by decide +kernel
theorem dX4_sheet_1 : decode cX4_sheet 1 = .ok (.iconst 4, 1) := by decide +kernel
theorem dX4_sheet_2 : decode cX4_sheet 2 = .ok (.invokestatic 62, 3) := by decide +kernel
theorem dX4_sheet_5 : decode cX4_sheet 5 = .ok (.ifCond .eq 17, 3) := by decide +kernel
theorem dX4_sheet_8 : decode cX4_sheet 8 = .ok (.iload_n 2, 1) := by decide +kernel
theorem dX4_sheet_9 : decode cX4_sheet 9 = .ok (.iconst 3, 1) := by decide +kernel
theorem dX4_sheet_10 : decode cX4_sheet 10 = .ok (.invokestatic 62, 3) := by decide +kernel
theorem dX4_sheet_13 : decode cX4_sheet 13 = .ok (.ifCond .eq 9, 3) := by decide +kernel
theorem dX4_sheet_16 : decode cX4_sheet 16 = .ok (.iload_n 3, 1) := by decide +kernel
theorem dX4_sheet_17 : decode cX4_sheet 17 = .ok (.bipush 60, 2) := by decide +kernel
theorem dX4_sheet_19 : decode cX4_sheet 19 = .ok (.if_icmp .le 6, 3) := by decide +kernel
theorem dX4_sheet_22 : decode cX4_sheet 22 = .ok (.bipush (-2), 2) := by decide +kernel
theorem dX4_sheet_24 : decode cX4_sheet 24 = .ok (.ireturn, 1) := by decide +kernel
theorem dX4_sheet_25 : decode cX4_sheet 25 = .ok (.iload_n 3, 1) := by decide +kernel
theorem dX4_sheet_26 : decode cX4_sheet 26 = .ok (.ifCond .ge 9, 3) := by decide +kernel
theorem dX4_sheet_29 : decode cX4_sheet 29 = .ok (.aload_n 0, 1) := by decide +kernel
theorem dX4_sheet_30 : decode cX4_sheet 30 = .ok (.iconst 5, 1) := by decide +kernel
theorem dX4_sheet_31 : decode cX4_sheet 31 = .ok (.invokevirtual 165, 3) := by decide +kernel
theorem dX4_sheet_34 : decode cX4_sheet 34 = .ok (.ireturn, 1) := by decide +kernel
theorem dX4_sheet_35 : decode cX4_sheet 35 = .ok (.aload_n 0, 1) := by decide +kernel
theorem dX4_sheet_36 : decode cX4_sheet 36 = .ok (.getfield 47, 3) := by decide +kernel
theorem dX4_sheet_39 : decode cX4_sheet 39 = .ok (.iload_n 1, 1) := by decide +kernel
theorem dX4_sheet_40 : decode cX4_sheet 40 = .ok (.aaload, 1) := by decide +kernel
theorem dX4_sheet_41 : decode cX4_sheet 41 = .ok (.iload_n 2, 1) := by decide +kernel
theorem dX4_sheet_42 : decode cX4_sheet 42 = .ok (.iload_n 3, 1) := by decide +kernel
theorem dX4_sheet_43 : decode cX4_sheet 43 = .ok (.invokevirtual 199, 3) := by decide +kernel
theorem dX4_sheet_46 : decode cX4_sheet 46 = .ok (.iload_n 3, 1) := by decide +kernel
theorem dX4_sheet_47 : decode cX4_sheet 47 = .ok (.ireturn, 1) := by decide +kernel
theorem dX4_lose_0 : decode cX4_lose 0 = .ok (.iload_n 1, 1) := by decide +kernel
theorem dX4_lose_1 : decode cX4_lose 1 = .ok (.iconst 4, 1) := by decide +kernel
theorem dX4_lose_2 : decode cX4_lose 2 = .ok (.invokestatic 62, 3) := by decide +kernel
theorem dX4_lose_5 : decode cX4_lose 5 = .ok (.ifCond .ne 6, 3) := by decide +kernel
theorem dX4_lose_8 : decode cX4_lose 8 = .ok (.bipush (-2), 2) := by decide +kernel
theorem dX4_lose_10 : decode cX4_lose 10 = .ok (.ireturn, 1) := by decide +kernel
theorem dX4_lose_11 : decode cX4_lose 11 = .ok (.aload_n 0, 1) := by decide +kernel
theorem dX4_lose_12 : decode cX4_lose 12 = .ok (.getfield 47, 3) := by decide +kernel
theorem dX4_lose_15 : decode cX4_lose 15 = .ok (.iload_n 1, 1) := by decide +kernel
theorem dX4_lose_16 : decode cX4_lose 16 = .ok (.aaload, 1) := by decide +kernel
theorem dX4_lose_17 : decode cX4_lose 17 = .ok (.invokevirtual 161, 3) := by decide +kernel
theorem dX4_lose_20 : decode cX4_lose 20 = .ok (.ifCond .eq 11, 3) := by decide +kernel
theorem dX4_lose_23 : decode cX4_lose 23 = .ok (.aload_n 0, 1) := by decide +kernel
theorem dX4_lose_24 : decode cX4_lose 24 = .ok (.iconst 1, 1) := by decide +kernel
theorem dX4_lose_25 : decode cX4_lose 25 = .ok (.invokevirtual 165, 3) := by decide +kernel
theorem dX4_lose_28 : decode cX4_lose 28 = .ok (.goto 12, 3) := by decide +kernel
theorem dX4_lose_31 : decode cX4_lose 31 = .ok (.aload_n 0, 1) := by decide +kernel
theorem dX4_lose_32 : decode cX4_lose 32 = .ok (.getfield 47, 3) := by decide +kernel
theorem dX4_lose_35 : decode cX4_lose 35 = .ok (.iload_n 1, 1) := by decide +kernel
theorem dX4_lose_36 : decode cX4_lose 36 = .ok (.aaload, 1) := by decide +kernel
theorem dX4_lose_37 : decode cX4_lose 37 = .ok (.invokevirtual 203, 3) := by decide +kernel
theorem dX4_lose_40 : decode cX4_lose 40 = .ok (.ireturn, 1) := by decide +kernel
theorem dX4_lay_0 : decode cX4_lay 0 = .ok (.iload_n 1, 1) := by decide +kernel
theorem dX4_lay_1 : decode cX4_lay 1 = .ok (.iconst 4, 1) := by decide +kernel
theorem dX4_lay_2 : decode cX4_lay 2 = .ok (.invokestatic 62, 3) := by decide +kernel
theorem dX4_lay_5 : decode cX4_lay 5 = .ok (.ifCond .eq 11, 3) := by decide +kernel
theorem dX4_lay_8 : decode cX4_lay 8 = .ok (.iload_n 2, 1) := by decide +kernel
theorem dX4_lay_9 : decode cX4_lay 9 = .ok (.iconst 3, 1) := by decide +kernel
theorem dX4_lay_10 : decode cX4_lay 10 = .ok (.invokestatic 62, 3) := by decide +kernel
theorem dX4_lay_13 : decode cX4_lay 13 = .ok (.ifCond .ne 6, 3) := by decide +kernel
theorem dX4_lay_16 : decode cX4_lay 16 = .ok (.bipush (-2), 2) := by decide +kernel
theorem dX4_lay_18 : decode cX4_lay 18 = .ok (.ireturn, 1) := by decide +kernel
theorem dX4_lay_19 : decode cX4_lay 19 = .ok (.aload_n 0, 1) := by decide +kernel
theorem dX4_lay_20 : decode cX4_lay 20 = .ok (.getfield 47, 3) := by decide +kernel
theorem dX4_lay_23 : decode cX4_lay 23 = .ok (.iload_n 1, 1) := by decide +kernel
theorem dX4_lay_24 : decode cX4_lay 24 = .ok (.aaload, 1) := by decide +kernel
theorem dX4_lay_25 : decode cX4_lay 25 = .ok (.iload_n 2, 1) := by decide +kernel
theorem dX4_lay_26 : decode cX4_lay 26 = .ok (.iload_n 3, 1) := by decide +kernel
theorem dX4_lay_27 : decode cX4_lay 27 = .ok (.invokestatic 206, 3) := by decide +kernel
theorem dX4_lay_30 : decode cX4_lay 30 = .ok (.istore 5, 2) := by decide +kernel
theorem dX4_lay_32 : decode cX4_lay 32 = .ok (.iload 5, 2) := by decide +kernel
theorem dX4_lay_34 : decode cX4_lay 34 = .ok (.ifCond .eq 10, 3) := by decide +kernel
theorem dX4_lay_37 : decode cX4_lay 37 = .ok (.aload_n 0, 1) := by decide +kernel
theorem dX4_lay_38 : decode cX4_lay 38 = .ok (.iload 5, 2) := by decide +kernel
theorem dX4_lay_40 : decode cX4_lay 40 = .ok (.invokevirtual 165, 3) := by decide +kernel
theorem dX4_lay_43 : decode cX4_lay 43 = .ok (.ireturn, 1) := by decide +kernel
theorem dX4_lay_44 : decode cX4_lay 44 = .ok (.aload_n 0, 1) := by decide +kernel
theorem dX4_lay_45 : decode cX4_lay 45 = .ok (.getfield 47, 3) := by decide +kernel
theorem dX4_lay_48 : decode cX4_lay 48 = .ok (.iload_n 1, 1) := by decide +kernel
theorem dX4_lay_49 : decode cX4_lay 49 = .ok (.aaload, 1) := by decide +kernel
theorem dX4_lay_50 : decode cX4_lay 50 = .ok (.iload_n 3, 1) := by decide +kernel
theorem dX4_lay_51 : decode cX4_lay 51 = .ok (.iload 4, 2) := by decide +kernel
theorem dX4_lay_53 : decode cX4_lay 53 = .ok (.invokevirtual 210, 3) := by decide +kernel
theorem dX4_lay_56 : decode cX4_lay 56 = .ok (.iconst 1, 1) := by decide +kernel
theorem dX4_lay_57 : decode cX4_lay 57 = .ok (.ireturn, 1) := by decide +kernel
theorem dX4_get_0 : decode cX4_get 0 = .ok (.iload_n 1, 1) := by decide +kernel
theorem dX4_get_1 : decode cX4_get 1 = .ok (.iconst 4, 1) := by decide +kernel
theorem dX4_get_2 : decode cX4_get 2 = .ok (.invokestatic 62, 3) := by decide +kernel
theorem dX4_get_5 : decode cX4_get 5 = .ok (.ifCond .eq 11, 3) := by decide +kernel
theorem dX4_get_8 : decode cX4_get 8 = .ok (.iload_n 2, 1) := by decide +kernel
theorem dX4_get_9 : decode cX4_get 9 = .ok (.iconst 3, 1) := by decide +kernel
theorem dX4_get_10 : decode cX4_get 10 = .ok (.invokestatic 62, 3) := by decide +kernel
theorem dX4_get_13 : decode cX4_get 13 = .ok (.ifCond .ne 6, 3) := by decide +kernel
theorem dX4_get_16 : decode cX4_get 16 = .ok (.ldc 213, 2) := by decide +kernel
theorem dX4_get_18 : decode cX4_get 18 = .ok (.ireturn, 1) := by decide +kernel
theorem dX4_get_19 : decode cX4_get 19 = .ok (.aload_n 0, 1) := by decide +kernel
theorem dX4_get_20 : decode cX4_get 20 = .ok (.getfield 47, 3) := by decide +kernel
theorem dX4_get_23 : decode cX4_get 23 = .ok (.iload_n 1, 1) := by decide +kernel
theorem dX4_get_24 : decode cX4_get 24 = .ok (.aaload, 1) := by decide +kernel
theorem dX4_get_25 : decode cX4_get 25 = .ok (.iload_n 2, 1) := by decide +kernel
theorem dX4_get_26 : decode cX4_get 26 = .ok (.iload_n 3, 1) := by decide +kernel
theorem dX4_get_27 : decode cX4_get 27 = .ok (.invokestatic 206, 3) := by decide +kernel
theorem dX4_get_30 : decode cX4_get 30 = .ok (.istore 4, 2) := by decide +kernel
theorem dX4_get_32 : decode cX4_get 32 = .ok (.iload 4, 2) := by decide +kernel
theorem dX4_get_34 : decode cX4_get 34 = .ok (.ifCond .eq 13, 3) := by decide +kernel
theorem dX4_get_37 : decode cX4_get 37 = .ok (.aload_n 0, 1) := by decide +kernel
theorem dX4_get_38 : decode cX4_get 38 = .ok (.iload 4, 2) := by decide +kernel
theorem dX4_get_40 : decode cX4_get 40 = .ok (.invokevirtual 165, 3) := by decide +kernel
theorem dX4_get_43 : decode cX4_get 43 = .ok (.pop, 1) := by decide +kernel
theorem dX4_get_44 : decode cX4_get 44 = .ok (.ldc 213, 2) := by decide +kernel
theorem dX4_get_46 : decode cX4_get 46 = .ok (.ireturn, 1) := by decide +kernel
theorem dX4_get_47 : decode cX4_get 47 = .ok (.aload_n 0, 1) := by decide +kernel
theorem dX4_get_48 : decode cX4_get 48 = .ok (.getfield 47, 3) := by decide +kernel
theorem dX4_get_51 : decode cX4_get 51 = .ok (.iload_n 1, 1) := by decide +kernel
theorem dX4_get_52 : decode cX4_get 52 = .ok (.aaload, 1) := by decide +kernel
theorem dX4_get_53 : decode cX4_get 53 = .ok (.getfield 171, 3) := by decide +kernel
theorem dX4_get_56 : decode cX4_get 56 = .ok (.iload_n 3, 1) := by decide +kernel
theorem dX4_get_57 : decode cX4_get 57 = .ok (.iaload, 1) := by decide +kernel
theorem dX4_get_58 : decode cX4_get 58 = .ok (.ireturn, 1) := by decide +kernel
theorem dX4_copy_0 : decode cX4_copy 0 = .ok (.iload_n 1, 1) := by decide +kernel
theorem dX4_copy_1 : decode cX4_copy 1 = .ok (.iconst 4, 1) := by decide +kernel
theorem dX4_copy_2 : decode cX4_copy 2 = .ok (.invokestatic 62, 3) := by decide +kernel
theorem dX4_copy_5 : decode cX4_copy 5 = .ok (.ifCond .eq 11, 3) := by decide +kernel
theorem dX4_copy_8 : decode cX4_copy 8 = .ok (.iload_n 3, 1) := by decide +kernel
theorem dX4_copy_9 : decode cX4_copy 9 = .ok (.iconst 4, 1) := by decide +kernel
theorem dX4_copy_10 : decode cX4_copy 10 = .ok (.invokestatic 62, 3) := by decide +kernel
theorem dX4_copy_13 : decode cX4_copy 13 = .ok (.ifCond .ne 6, 3) := by decide +kernel
theorem dX4_copy_16 : decode cX4_copy 16 = .ok (.bipush (-2), 2) := by decide +kernel
theorem dX4_copy_18 : decode cX4_copy 18 = .ok (.ireturn, 1) := by decide +kernel
theorem dX4_copy_19 : decode cX4_copy 19 = .ok (.aload_n 0, 1) := by decide +kernel
theorem dX4_copy_20 : decode cX4_copy 20 = .ok (.getfield 47, 3) := by decide +kernel
theorem dX4_copy_23 : decode cX4_copy 23 = .ok (.iload_n 1, 1) := by decide +kernel
theorem dX4_copy_24 : decode cX4_copy 24 = .ok (.aaload, 1) := by decide +kernel
theorem dX4_copy_25 : decode cX4_copy 25 = .ok (.astore 6, 2) := by decide +kernel
theorem dX4_copy_27 : decode cX4_copy 27 = .ok (.aload_n 0, 1) := by decide +kernel
theorem dX4_copy_28 : decode cX4_copy 28 = .ok (.getfield 47, 3) := by decide +kernel
theorem dX4_copy_31 : decode cX4_copy 31 = .ok (.iload_n 3, 1) := by decide +kernel
theorem dX4_copy_32 : decode cX4_copy 32 = .ok (.aaload, 1) := by decide +kernel
theorem dX4_copy_33 : decode cX4_copy 33 = .ok (.astore 7, 2) := by decide +kernel
theorem dX4_copy_35 : decode cX4_copy 35 = .ok (.aload 6, 2) := by decide +kernel
theorem dX4_copy_37 : decode cX4_copy 37 = .ok (.invokevirtual 161, 3) := by decide +kernel
theorem dX4_copy_40 : decode cX4_copy 40 = .ok (.ifCond .ne 11, 3) := by decide +kernel
theorem dX4_copy_43 : decode cX4_copy 43 = .ok (.aload 7, 2) := by decide +kernel
theorem dX4_copy_45 : decode cX4_copy 45 = .ok (.invokevirtual 161, 3) := by decide +kernel
theorem dX4_copy_48 : decode cX4_copy 48 = .ok (.ifCond .eq 9, 3) := by decide +kernel
theorem dX4_copy_51 : decode cX4_copy 51 = .ok (.aload_n 0, 1) := by decide +kernel
theorem dX4_copy_52 : decode cX4_copy 52 = .ok (.iconst 1, 1) := by decide +kernel
theorem dX4_copy_53 : decode cX4_copy 53 = .ok (.invokevirtual 165, 3) := by decide +kernel
theorem dX4_copy_56 : decode cX4_copy 56 = .ok (.ireturn, 1) := by decide +kernel
theorem dX4_copy_57 : decode cX4_copy 57 = .ok (.aload 6, 2) := by decide +kernel
theorem dX4_copy_59 : decode cX4_copy 59 = .ok (.getfield 214, 3) := by decide +kernel
theorem dX4_copy_62 : decode cX4_copy 62 = .ok (.aload 7, 2) := by decide +kernel
theorem dX4_copy_64 : decode cX4_copy 64 = .ok (.getfield 214, 3) := by decide +kernel
theorem dX4_copy_67 : decode cX4_copy 67 = .ok (.if_icmp .eq 9, 3) := by decide +kernel
theorem dX4_copy_70 : decode cX4_copy 70 = .ok (.aload_n 0, 1) := by decide +kernel
theorem dX4_copy_71 : decode cX4_copy 71 = .ok (.iconst 4, 1) := by decide +kernel
theorem dX4_copy_72 : decode cX4_copy 72 = .ok (.invokevirtual 165, 3) := by decide +kernel
theorem dX4_copy_75 : decode cX4_copy 75 = .ok (.ireturn, 1) := by decide +kernel
theorem dX4_copy_76 : decode cX4_copy 76 = .ok (.aload 6, 2) := by decide +kernel
theorem dX4_copy_78 : decode cX4_copy 78 = .ok (.iload_n 2, 1) := by decide +kernel
theorem dX4_copy_79 : decode cX4_copy 79 = .ok (.iload 5, 2) := by decide +kernel
theorem dX4_copy_81 : decode cX4_copy 81 = .ok (.invokevirtual 217, 3) := by decide +kernel
theorem dX4_copy_84 : decode cX4_copy 84 = .ok (.ifCond .eq 15, 3) := by decide +kernel
theorem dX4_copy_87 : decode cX4_copy 87 = .ok (.aload 7, 2) := by decide +kernel
theorem dX4_copy_89 : decode cX4_copy 89 = .ok (.iload 4, 2) := by decide +kernel
theorem dX4_copy_91 : decode cX4_copy 91 = .ok (.iload 5, 2) := by decide +kernel
theorem dX4_copy_93 : decode cX4_copy 93 = .ok (.invokevirtual 217, 3) := by decide +kernel
theorem dX4_copy_96 : decode cX4_copy 96 = .ok (.ifCond .ne 9, 3) := by decide +kernel
theorem dX4_copy_99 : decode cX4_copy 99 = .ok (.aload_n 0, 1) := by decide +kernel
theorem dX4_copy_100 : decode cX4_copy 100 = .ok (.iconst 2, 1) := by decide +kernel
theorem dX4_copy_101 : decode cX4_copy 101 = .ok (.invokevirtual 165, 3) := by decide +kernel
theorem dX4_copy_104 : decode cX4_copy 104 = .ok (.ireturn, 1) := by decide +kernel
theorem dX4_copy_105 : decode cX4_copy 105 = .ok (.aload 6, 2) := by decide +kernel
theorem dX4_copy_107 : decode cX4_copy 107 = .ok (.getfield 171, 3) := by decide +kernel
theorem dX4_copy_110 : decode cX4_copy 110 = .ok (.iload_n 2, 1) := by decide +kernel
theorem dX4_copy_111 : decode cX4_copy 111 = .ok (.aload 7, 2) := by decide +kernel
theorem dX4_copy_113 : decode cX4_copy 113 = .ok (.getfield 171, 3) := by decide +kernel
theorem dX4_copy_116 : decode cX4_copy 116 = .ok (.iload 4, 2) := by decide +kernel
theorem dX4_copy_118 : decode cX4_copy 118 = .ok (.iload 5, 2) := by decide +kernel
theorem dX4_copy_120 : decode cX4_copy 120 = .ok (.invokestatic 220, 3) := by decide +kernel
theorem dX4_copy_123 : decode cX4_copy 123 = .ok (.iconst 1, 1) := by decide +kernel
theorem dX4_copy_124 : decode cX4_copy 124 = .ok (.ireturn, 1) := by decide +kernel
theorem dX4_write_0 : decode cX4_write 0 = .ok (.iload_n 1, 1) := by decide +kernel
theorem dX4_write_1 : decode cX4_write 1 = .ok (.iconst 4, 1) := by decide +kernel
theorem dX4_write_2 : decode cX4_write 2 = .ok (.invokestatic 62, 3) := by decide +kernel
theorem dX4_write_5 : decode cX4_write 5 = .ok (.ifCond .ne 6, 3) := by decide +kernel
theorem dX4_write_8 : decode cX4_write 8 = .ok (.bipush (-2), 2) := by decide +kernel
theorem dX4_write_10 : decode cX4_write 10 = .ok (.ireturn, 1) := by decide +kernel
theorem dX4_write_11 : decode cX4_write 11 = .ok (.aload_n 0, 1) := by decide +kernel
theorem dX4_write_12 : decode cX4_write 12 = .ok (.getfield 47, 3) := by decide +kernel
theorem dX4_write_15 : decode cX4_write 15 = .ok (.iload_n 1, 1) := by decide +kernel
theorem dX4_write_16 : decode cX4_write 16 = .ok (.aaload, 1) := by decide +kernel
theorem dX4_write_17 : decode cX4_write 17 = .ok (.astore_n 2, 1) := by decide +kernel
theorem dX4_write_18 : decode cX4_write 18 = .ok (.aload_n 2, 1) := by decide +kernel
theorem dX4_write_19 : decode cX4_write 19 = .ok (.invokevirtual 161, 3) := by decide +kernel
theorem dX4_write_22 : decode cX4_write 22 = .ok (.ifCond .eq 9, 3) := by decide +kernel
theorem dX4_write_25 : decode cX4_write 25 = .ok (.aload_n 0, 1) := by decide +kernel
theorem dX4_write_26 : decode cX4_write 26 = .ok (.iconst 1, 1) := by decide +kernel
theorem dX4_write_27 : decode cX4_write 27 = .ok (.invokevirtual 165, 3) := by decide +kernel
theorem dX4_write_30 : decode cX4_write 30 = .ok (.ireturn, 1) := by decide +kernel
theorem dX4_write_31 : decode cX4_write 31 = .ok (.aload_n 0, 1) := by decide +kernel
theorem dX4_write_32 : decode cX4_write 32 = .ok (.getfield 41, 3) := by decide +kernel
theorem dX4_write_35 : decode cX4_write 35 = .ok (.invokevirtual 98, 3) := by decide +kernel
theorem dX4_write_38 : decode cX4_write 38 = .ok (.astore_n 3, 1) := by decide +kernel
theorem dX4_write_39 : decode cX4_write 39 = .ok (.aload_n 2, 1) := by decide +kernel
theorem dX4_write_40 : decode cX4_write 40 = .ok (.getfield 168, 3) := by decide +kernel
theorem dX4_write_43 : decode cX4_write 43 = .ok (.bipush 28, 2) := by decide +kernel
theorem dX4_write_45 : decode cX4_write 45 = .ok (.invokestatic 193, 3) := by decide +kernel
theorem dX4_write_48 : decode cX4_write 48 = .ok (.istore 4, 2) := by decide +kernel
theorem dX4_write_50 : decode cX4_write 50 = .ok (.iconst 0, 1) := by decide +kernel
theorem dX4_write_51 : decode cX4_write 51 = .ok (.istore 5, 2) := by decide +kernel
theorem dX4_write_53 : decode cX4_write 53 = .ok (.iload 5, 2) := by decide +kernel
theorem dX4_write_55 : decode cX4_write 55 = .ok (.iload 4, 2) := by decide +kernel
theorem dX4_write_57 : decode cX4_write 57 = .ok (.if_icmp .ge 26, 3) := by decide +kernel
theorem dX4_write_60 : decode cX4_write 60 = .ok (.aload_n 2, 1) := by decide +kernel
theorem dX4_write_61 : decode cX4_write 61 = .ok (.iload 5, 2) := by decide +kernel
theorem dX4_write_63 : decode cX4_write 63 = .ok (.aload_n 3, 1) := by decide +kernel
theorem dX4_write_64 : decode cX4_write 64 = .ok (.getfield 116, 3) := by decide +kernel
theorem dX4_write_67 : decode cX4_write 67 = .ok (.aload_n 0, 1) := by decide +kernel
theorem dX4_write_68 : decode cX4_write 68 = .ok (.iload 5, 2) := by decide +kernel
theorem dX4_write_70 : decode cX4_write 70 = .ok (.invokevirtual 119, 3) := by decide +kernel
theorem dX4_write_73 : decode cX4_write 73 = .ok (.iaload, 1) := by decide +kernel
theorem dX4_write_74 : decode cX4_write 74 = .ok (.invokevirtual 210, 3) := by decide +kernel
theorem dX4_write_77 : decode cX4_write 77 = .ok (.iinc 5 1, 3) := by decide +kernel
theorem dX4_write_80 : decode cX4_write 80 = .ok (.goto (-27), 3) := by decide +kernel
theorem dX4_write_83 : decode cX4_write 83 = .ok (.iload 4, 2) := by decide +kernel
theorem dX4_write_85 : decode cX4_write 85 = .ok (.ireturn, 1) := by decide +kernel
theorem dX4_count_0 : decode cX4_count 0 = .ok (.iload_n 1, 1) := by decide +kernel
theorem dX4_count_1 : decode cX4_count 1 = .ok (.tableswitch 117 0 8 #[51, 59, 67, 75, 83, 91, 99, 107, 112], 51) := by decide +kernel
theorem dX4_count_52 : decode cX4_count 52 = .ok (.aload_n 0, 1) := by decide +kernel
theorem dX4_count_53 : decode cX4_count 53 = .ok (.getfield 14, 3) := by decide +kernel
theorem dX4_count_56 : decode cX4_count 56 = .ok (.getfield 88, 3) := by decide +kernel
theorem dX4_count_59 : decode cX4_count 59 = .ok (.ireturn, 1) := by decide +kernel
theorem dX4_count_60 : decode cX4_count 60 = .ok (.aload_n 0, 1) := by decide +kernel
theorem dX4_count_61 : decode cX4_count 61 = .ok (.getfield 18, 3) := by decide +kernel
theorem dX4_count_64 : decode cX4_count 64 = .ok (.getfield 88, 3) := by decide +kernel
theorem dX4_count_67 : decode cX4_count 67 = .ok (.ireturn, 1) := by decide +kernel
theorem dX4_count_68 : decode cX4_count 68 = .ok (.aload_n 0, 1) := by decide +kernel
theorem dX4_count_69 : decode cX4_count 69 = .ok (.getfield 14, 3) := by decide +kernel
theorem dX4_count_72 : decode cX4_count 72 = .ok (.getfield 226, 3) := by decide +kernel
theorem dX4_count_75 : decode cX4_count 75 = .ok (.ireturn, 1) := by decide +kernel
theorem dX4_count_76 : decode cX4_count 76 = .ok (.aload_n 0, 1) := by decide +kernel
theorem dX4_count_77 : decode cX4_count 77 = .ok (.getfield 18, 3) := by decide +kernel
theorem dX4_count_80 : decode cX4_count 80 = .ok (.getfield 226, 3) := by decide +kernel
theorem dX4_count_83 : decode cX4_count 83 = .ok (.ireturn, 1) := by decide +kernel
theorem dX4_count_84 : decode cX4_count 84 = .ok (.aload_n 0, 1) := by decide +kernel
theorem dX4_count_85 : decode cX4_count 85 = .ok (.getfield 26, 3) := by decide +kernel
theorem dX4_count_88 : decode cX4_count 88 = .ok (.getfield 229, 3) := by decide +kernel
theorem dX4_count_91 : decode cX4_count 91 = .ok (.ireturn, 1) := by decide +kernel
theorem dX4_count_92 : decode cX4_count 92 = .ok (.aload_n 0, 1) := by decide +kernel
theorem dX4_count_93 : decode cX4_count 93 = .ok (.getfield 30, 3) := by decide +kernel
theorem dX4_count_96 : decode cX4_count 96 = .ok (.getfield 229, 3) := by decide +kernel
theorem dX4_count_99 : decode cX4_count 99 = .ok (.ireturn, 1) := by decide +kernel
theorem dX4_count_100 : decode cX4_count 100 = .ok (.aload_n 0, 1) := by decide +kernel
theorem dX4_count_101 : decode cX4_count 101 = .ok (.getfield 33, 3) := by decide +kernel
theorem dX4_count_104 : decode cX4_count 104 = .ok (.getfield 229, 3) := by decide +kernel
theorem dX4_count_107 : decode cX4_count 107 = .ok (.ireturn, 1) := by decide +kernel
theorem dX4_count_108 : decode cX4_count 108 = .ok (.aload_n 0, 1) := by decide +kernel
theorem dX4_count_109 : decode cX4_count 109 = .ok (.invokevirtual 230, 3) := by decide +kernel
theorem dX4_count_112 : decode cX4_count 112 = .ok (.ireturn, 1) := by decide +kernel
theorem dX4_count_113 : decode cX4_count 113 = .ok (.aload_n 0, 1) := by decide +kernel
theorem dX4_count_114 : decode cX4_count 114 = .ok (.getfield 58, 3) := by decide +kernel
theorem dX4_count_117 : decode cX4_count 117 = .ok (.ireturn, 1) := by decide +kernel
theorem dX4_count_118 : decode cX4_count 118 = .ok (.bipush (-2), 2) := by decide +kernel
theorem dX4_count_120 : decode cX4_count 120 = .ok (.ireturn, 1) := by decide +kernel
theorem dX4_digest_0 : decode cX4_digest 0 = .ok (.ldc2_w 233, 3) := by decide +kernel
theorem dX4_digest_3 : decode cX4_digest 3 = .ok (.lstore_n 1, 1) := by decide +kernel
theorem dX4_digest_4 : decode cX4_digest 4 = .ok (.iconst 0, 1) := by decide +kernel
theorem dX4_digest_5 : decode cX4_digest 5 = .ok (.istore_n 3, 1) := by decide +kernel
theorem dX4_digest_6 : decode cX4_digest 6 = .ok (.iload_n 3, 1) := by decide +kernel
theorem dX4_digest_7 : decode cX4_digest 7 = .ok (.bipush 7, 2) := by decide +kernel
theorem dX4_digest_9 : decode cX4_digest 9 = .ok (.if_icmp .gt 22, 3) := by decide +kernel
theorem dX4_digest_12 : decode cX4_digest 12 = .ok (.ldc2_w 235, 3) := by decide +kernel
theorem dX4_digest_15 : decode cX4_digest 15 = .ok (.lload_n 1, 1) := by decide +kernel
theorem dX4_digest_16 : decode cX4_digest 16 = .ok (.lmul, 1) := by decide +kernel
theorem dX4_digest_17 : decode cX4_digest 17 = .ok (.aload_n 0, 1) := by decide +kernel
theorem dX4_digest_18 : decode cX4_digest 18 = .ok (.iload_n 3, 1) := by decide +kernel
theorem dX4_digest_19 : decode cX4_digest 19 = .ok (.invokevirtual 237, 3) := by decide +kernel
theorem dX4_digest_22 : decode cX4_digest 22 = .ok (.i2l, 1) := by decide +kernel
theorem dX4_digest_23 : decode cX4_digest 23 = .ok (.ladd, 1) := by decide +kernel
theorem dX4_digest_24 : decode cX4_digest 24 = .ok (.lstore_n 1, 1) := by decide +kernel
theorem dX4_digest_25 : decode cX4_digest 25 = .ok (.iinc 3 1, 3) := by decide +kernel
theorem dX4_digest_28 : decode cX4_digest 28 = .ok (.goto (-22), 3) := by decide +kernel
theorem dX4_digest_31 : decode cX4_digest 31 = .ok (.aload_n 0, 1) := by decide +kernel
theorem dX4_digest_32 : decode cX4_digest 32 = .ok (.lload_n 1, 1) := by decide +kernel
theorem dX4_digest_33 : decode cX4_digest 33 = .ok (.invokevirtual 240, 3) := by decide +kernel
theorem dX4_digest_36 : decode cX4_digest 36 = .ok (.lstore_n 1, 1) := by decide +kernel
theorem dX4_digest_37 : decode cX4_digest 37 = .ok (.iconst 0, 1) := by decide +kernel
theorem dX4_digest_38 : decode cX4_digest 38 = .ok (.istore_n 3, 1) := by decide +kernel
theorem dX4_digest_39 : decode cX4_digest 39 = .ok (.iload_n 3, 1) := by decide +kernel
theorem dX4_digest_40 : decode cX4_digest 40 = .ok (.iconst 4, 1) := by decide +kernel
theorem dX4_digest_41 : decode cX4_digest 41 = .ok (.if_icmp .ge 16, 3) := by decide +kernel
theorem dX4_digest_44 : decode cX4_digest 44 = .ok (.aload_n 0, 1) := by decide +kernel
theorem dX4_digest_45 : decode cX4_digest 45 = .ok (.lload_n 1, 1) := by decide +kernel
theorem dX4_digest_46 : decode cX4_digest 46 = .ok (.iload_n 3, 1) := by decide +kernel
theorem dX4_digest_47 : decode cX4_digest 47 = .ok (.invokevirtual 244, 3) := by decide +kernel
theorem dX4_digest_50 : decode cX4_digest 50 = .ok (.lstore_n 1, 1) := by decide +kernel
theorem dX4_digest_51 : decode cX4_digest 51 = .ok (.iinc 3 1, 3) := by decide +kernel
theorem dX4_digest_54 : decode cX4_digest 54 = .ok (.goto (-15), 3) := by decide +kernel
theorem dX4_digest_57 : decode cX4_digest 57 = .ok (.iconst 0, 1) := by decide +kernel
theorem dX4_digest_58 : decode cX4_digest 58 = .ok (.istore_n 3, 1) := by decide +kernel
theorem dX4_digest_59 : decode cX4_digest 59 = .ok (.iload_n 3, 1) := by decide +kernel
theorem dX4_digest_60 : decode cX4_digest 60 = .ok (.bipush 8, 2) := by decide +kernel
theorem dX4_digest_62 : decode cX4_digest 62 = .ok (.if_icmp .ge 16, 3) := by decide +kernel
theorem dX4_digest_65 : decode cX4_digest 65 = .ok (.aload_n 0, 1) := by decide +kernel
theorem dX4_digest_66 : decode cX4_digest 66 = .ok (.lload_n 1, 1) := by decide +kernel
theorem dX4_digest_67 : decode cX4_digest 67 = .ok (.iload_n 3, 1) := by decide +kernel
theorem dX4_digest_68 : decode cX4_digest 68 = .ok (.invokevirtual 248, 3) := by decide +kernel
theorem dX4_digest_71 : decode cX4_digest 71 = .ok (.lstore_n 1, 1) := by decide +kernel
theorem dX4_digest_72 : decode cX4_digest 72 = .ok (.iinc 3 1, 3) := by decide +kernel
theorem dX4_digest_75 : decode cX4_digest 75 = .ok (.goto (-16), 3) := by decide +kernel
theorem dX4_digest_78 : decode cX4_digest 78 = .ok (.ldc2_w 235, 3) := by decide +kernel
theorem dX4_digest_81 : decode cX4_digest 81 = .ok (.lload_n 1, 1) := by decide +kernel
theorem dX4_digest_82 : decode cX4_digest 82 = .ok (.lmul, 1) := by decide +kernel
theorem dX4_digest_83 : decode cX4_digest 83 = .ok (.aload_n 0, 1) := by decide +kernel
theorem dX4_digest_84 : decode cX4_digest 84 = .ok (.iconst 0, 1) := by decide +kernel
theorem dX4_digest_85 : decode cX4_digest 85 = .ok (.invokevirtual 251, 3) := by decide +kernel
theorem dX4_digest_88 : decode cX4_digest 88 = .ok (.i2l, 1) := by decide +kernel
theorem dX4_digest_89 : decode cX4_digest 89 = .ok (.ladd, 1) := by decide +kernel
theorem dX4_digest_90 : decode cX4_digest 90 = .ok (.lstore_n 1, 1) := by decide +kernel
theorem dX4_digest_91 : decode cX4_digest 91 = .ok (.ldc2_w 235, 3) := by decide +kernel
theorem dX4_digest_94 : decode cX4_digest 94 = .ok (.lload_n 1, 1) := by decide +kernel
theorem dX4_digest_95 : decode cX4_digest 95 = .ok (.lmul, 1) := by decide +kernel
theorem dX4_digest_96 : decode cX4_digest 96 = .ok (.aload_n 0, 1) := by decide +kernel
theorem dX4_digest_97 : decode cX4_digest 97 = .ok (.iconst 1, 1) := by decide +kernel
theorem dX4_digest_98 : decode cX4_digest 98 = .ok (.invokevirtual 251, 3) := by decide +kernel
theorem dX4_digest_101 : decode cX4_digest 101 = .ok (.i2l, 1) := by decide +kernel
theorem dX4_digest_102 : decode cX4_digest 102 = .ok (.ladd, 1) := by decide +kernel
theorem dX4_digest_103 : decode cX4_digest 103 = .ok (.lstore_n 1, 1) := by decide +kernel
theorem dX4_digest_104 : decode cX4_digest 104 = .ok (.ldc2_w 235, 3) := by decide +kernel
theorem dX4_digest_107 : decode cX4_digest 107 = .ok (.lload_n 1, 1) := by decide +kernel
theorem dX4_digest_108 : decode cX4_digest 108 = .ok (.lmul, 1) := by decide +kernel
theorem dX4_digest_109 : decode cX4_digest 109 = .ok (.aload_n 0, 1) := by decide +kernel
theorem dX4_digest_110 : decode cX4_digest 110 = .ok (.iconst 5, 1) := by decide +kernel
theorem dX4_digest_111 : decode cX4_digest 111 = .ok (.invokevirtual 254, 3) := by decide +kernel
theorem dX4_digest_114 : decode cX4_digest 114 = .ok (.i2l, 1) := by decide +kernel
theorem dX4_digest_115 : decode cX4_digest 115 = .ok (.ladd, 1) := by decide +kernel
theorem dX4_digest_116 : decode cX4_digest 116 = .ok (.lstore_n 1, 1) := by decide +kernel
theorem dX4_digest_117 : decode cX4_digest 117 = .ok (.iconst 0, 1) := by decide +kernel
theorem dX4_digest_118 : decode cX4_digest 118 = .ok (.istore_n 3, 1) := by decide +kernel
theorem dX4_digest_119 : decode cX4_digest 119 = .ok (.iload_n 3, 1) := by decide +kernel
theorem dX4_digest_120 : decode cX4_digest 120 = .ok (.iconst 3, 1) := by decide +kernel
theorem dX4_digest_121 : decode cX4_digest 121 = .ok (.if_icmp .ge 22, 3) := by decide +kernel
theorem dX4_digest_124 : decode cX4_digest 124 = .ok (.ldc2_w 235, 3) := by decide +kernel
theorem dX4_digest_127 : decode cX4_digest 127 = .ok (.lload_n 1, 1) := by decide +kernel
theorem dX4_digest_128 : decode cX4_digest 128 = .ok (.lmul, 1) := by decide +kernel
theorem dX4_digest_129 : decode cX4_digest 129 = .ok (.aload_n 0, 1) := by decide +kernel
theorem dX4_digest_130 : decode cX4_digest 130 = .ok (.iload_n 3, 1) := by decide +kernel
theorem dX4_digest_131 : decode cX4_digest 131 = .ok (.invokevirtual 257, 3) := by decide +kernel
theorem dX4_digest_134 : decode cX4_digest 134 = .ok (.i2l, 1) := by decide +kernel
theorem dX4_digest_135 : decode cX4_digest 135 = .ok (.ladd, 1) := by decide +kernel
theorem dX4_digest_136 : decode cX4_digest 136 = .ok (.lstore_n 1, 1) := by decide +kernel
theorem dX4_digest_137 : decode cX4_digest 137 = .ok (.iinc 3 1, 3) := by decide +kernel
theorem dX4_digest_140 : decode cX4_digest 140 = .ok (.goto (-21), 3) := by decide +kernel
theorem dX4_digest_143 : decode cX4_digest 143 = .ok (.lload_n 1, 1) := by decide +kernel
theorem dX4_digest_144 : decode cX4_digest 144 = .ok (.lreturn, 1) := by decide +kernel
theorem dX4_digestOfTexts_0 : decode cX4_digestOfTexts 0 = .ok (.ldc2_w 235, 3) := by decide +kernel
theorem dX4_digestOfTexts_3 : decode cX4_digestOfTexts 3 = .ok (.lload_n 1, 1) := by decide +kernel
theorem dX4_digestOfTexts_4 : decode cX4_digestOfTexts 4 = .ok (.lmul, 1) := by decide +kernel
theorem dX4_digestOfTexts_5 : decode cX4_digestOfTexts 5 = .ok (.aload_n 0, 1) := by decide +kernel
theorem dX4_digestOfTexts_6 : decode cX4_digestOfTexts 6 = .ok (.iconst 0, 1) := by decide +kernel
theorem dX4_digestOfTexts_7 : decode cX4_digestOfTexts 7 = .ok (.invokevirtual 260, 3) := by decide +kernel
theorem dX4_digestOfTexts_10 : decode cX4_digestOfTexts 10 = .ok (.i2l, 1) := by decide +kernel
theorem dX4_digestOfTexts_11 : decode cX4_digestOfTexts 11 = .ok (.ladd, 1) := by decide +kernel
theorem dX4_digestOfTexts_12 : decode cX4_digestOfTexts 12 = .ok (.lstore_n 3, 1) := by decide +kernel
theorem dX4_digestOfTexts_13 : decode cX4_digestOfTexts 13 = .ok (.ldc2_w 235, 3) := by decide +kernel
theorem dX4_digestOfTexts_16 : decode cX4_digestOfTexts 16 = .ok (.lload_n 3, 1) := by decide +kernel
theorem dX4_digestOfTexts_17 : decode cX4_digestOfTexts 17 = .ok (.lmul, 1) := by decide +kernel
theorem dX4_digestOfTexts_18 : decode cX4_digestOfTexts 18 = .ok (.aload_n 0, 1) := by decide +kernel
theorem dX4_digestOfTexts_19 : decode cX4_digestOfTexts 19 = .ok (.iconst 1, 1) := by decide +kernel
theorem dX4_digestOfTexts_20 : decode cX4_digestOfTexts 20 = .ok (.invokevirtual 260, 3) := by decide +kernel
theorem dX4_digestOfTexts_23 : decode cX4_digestOfTexts 23 = .ok (.i2l, 1) := by decide +kernel
theorem dX4_digestOfTexts_24 : decode cX4_digestOfTexts 24 = .ok (.ladd, 1) := by decide +kernel
theorem dX4_digestOfTexts_25 : decode cX4_digestOfTexts 25 = .ok (.lstore_n 3, 1) := by decide +kernel
theorem dX4_digestOfTexts_26 : decode cX4_digestOfTexts 26 = .ok (.iconst 0, 1) := by decide +kernel
theorem dX4_digestOfTexts_27 : decode cX4_digestOfTexts 27 = .ok (.istore 5, 2) := by decide +kernel
theorem dX4_digestOfTexts_29 : decode cX4_digestOfTexts 29 = .ok (.iload 5, 2) := by decide +kernel
theorem dX4_digestOfTexts_31 : decode cX4_digestOfTexts 31 = .ok (.aload_n 0, 1) := by decide +kernel
theorem dX4_digestOfTexts_32 : decode cX4_digestOfTexts 32 = .ok (.getfield 14, 3) := by decide +kernel
theorem dX4_digestOfTexts_35 : decode cX4_digestOfTexts 35 = .ok (.getfield 88, 3) := by decide +kernel
theorem dX4_digestOfTexts_38 : decode cX4_digestOfTexts 38 = .ok (.if_icmp .ge 40, 3) := by decide +kernel
theorem dX4_digestOfTexts_41 : decode cX4_digestOfTexts 41 = .ok (.iconst 0, 1) := by decide +kernel
theorem dX4_digestOfTexts_42 : decode cX4_digestOfTexts 42 = .ok (.istore 6, 2) := by decide +kernel
theorem dX4_digestOfTexts_44 : decode cX4_digestOfTexts 44 = .ok (.iload 6, 2) := by decide +kernel
theorem dX4_digestOfTexts_46 : decode cX4_digestOfTexts 46 = .ok (.iconst 3, 1) := by decide +kernel
theorem dX4_digestOfTexts_47 : decode cX4_digestOfTexts 47 = .ok (.if_icmp .ge 25, 3) := by decide +kernel
theorem dX4_digestOfTexts_50 : decode cX4_digestOfTexts 50 = .ok (.ldc2_w 235, 3) := by decide +kernel
theorem dX4_digestOfTexts_53 : decode cX4_digestOfTexts 53 = .ok (.lload_n 3, 1) := by decide +kernel
theorem dX4_digestOfTexts_54 : decode cX4_digestOfTexts 54 = .ok (.lmul, 1) := by decide +kernel
theorem dX4_digestOfTexts_55 : decode cX4_digestOfTexts 55 = .ok (.aload_n 0, 1) := by decide +kernel
theorem dX4_digestOfTexts_56 : decode cX4_digestOfTexts 56 = .ok (.iload 5, 2) := by decide +kernel
theorem dX4_digestOfTexts_58 : decode cX4_digestOfTexts 58 = .ok (.iload 6, 2) := by decide +kernel
theorem dX4_digestOfTexts_60 : decode cX4_digestOfTexts 60 = .ok (.invokevirtual 263, 3) := by decide +kernel
theorem dX4_digestOfTexts_63 : decode cX4_digestOfTexts 63 = .ok (.i2l, 1) := by decide +kernel
theorem dX4_digestOfTexts_64 : decode cX4_digestOfTexts 64 = .ok (.ladd, 1) := by decide +kernel
theorem dX4_digestOfTexts_65 : decode cX4_digestOfTexts 65 = .ok (.lstore_n 3, 1) := by decide +kernel
theorem dX4_digestOfTexts_66 : decode cX4_digestOfTexts 66 = .ok (.iinc 6 1, 3) := by decide +kernel
theorem dX4_digestOfTexts_69 : decode cX4_digestOfTexts 69 = .ok (.goto (-25), 3) := by decide +kernel
theorem dX4_digestOfTexts_72 : decode cX4_digestOfTexts 72 = .ok (.iinc 5 1, 3) := by decide +kernel
theorem dX4_digestOfTexts_75 : decode cX4_digestOfTexts 75 = .ok (.goto (-46), 3) := by decide +kernel
theorem dX4_digestOfTexts_78 : decode cX4_digestOfTexts 78 = .ok (.iconst 0, 1) := by decide +kernel
theorem dX4_digestOfTexts_79 : decode cX4_digestOfTexts 79 = .ok (.istore 5, 2) := by decide +kernel
theorem dX4_digestOfTexts_81 : decode cX4_digestOfTexts 81 = .ok (.iload 5, 2) := by decide +kernel
theorem dX4_digestOfTexts_83 : decode cX4_digestOfTexts 83 = .ok (.aload_n 0, 1) := by decide +kernel
theorem dX4_digestOfTexts_84 : decode cX4_digestOfTexts 84 = .ok (.getfield 18, 3) := by decide +kernel
theorem dX4_digestOfTexts_87 : decode cX4_digestOfTexts 87 = .ok (.getfield 88, 3) := by decide +kernel
theorem dX4_digestOfTexts_90 : decode cX4_digestOfTexts 90 = .ok (.if_icmp .ge 40, 3) := by decide +kernel
theorem dX4_digestOfTexts_93 : decode cX4_digestOfTexts 93 = .ok (.iconst 0, 1) := by decide +kernel
theorem dX4_digestOfTexts_94 : decode cX4_digestOfTexts 94 = .ok (.istore 6, 2) := by decide +kernel
theorem dX4_digestOfTexts_96 : decode cX4_digestOfTexts 96 = .ok (.iload 6, 2) := by decide +kernel
theorem dX4_digestOfTexts_98 : decode cX4_digestOfTexts 98 = .ok (.iconst 5, 1) := by decide +kernel
theorem dX4_digestOfTexts_99 : decode cX4_digestOfTexts 99 = .ok (.if_icmp .ge 25, 3) := by decide +kernel
theorem dX4_digestOfTexts_102 : decode cX4_digestOfTexts 102 = .ok (.ldc2_w 235, 3) := by decide +kernel
theorem dX4_digestOfTexts_105 : decode cX4_digestOfTexts 105 = .ok (.lload_n 3, 1) := by decide +kernel
theorem dX4_digestOfTexts_106 : decode cX4_digestOfTexts 106 = .ok (.lmul, 1) := by decide +kernel
theorem dX4_digestOfTexts_107 : decode cX4_digestOfTexts 107 = .ok (.aload_n 0, 1) := by decide +kernel
theorem dX4_digestOfTexts_108 : decode cX4_digestOfTexts 108 = .ok (.iload 5, 2) := by decide +kernel
theorem dX4_digestOfTexts_110 : decode cX4_digestOfTexts 110 = .ok (.iload 6, 2) := by decide +kernel
theorem dX4_digestOfTexts_112 : decode cX4_digestOfTexts 112 = .ok (.invokevirtual 266, 3) := by decide +kernel
theorem dX4_digestOfTexts_115 : decode cX4_digestOfTexts 115 = .ok (.i2l, 1) := by decide +kernel
theorem dX4_digestOfTexts_116 : decode cX4_digestOfTexts 116 = .ok (.ladd, 1) := by decide +kernel
theorem dX4_digestOfTexts_117 : decode cX4_digestOfTexts 117 = .ok (.lstore_n 3, 1) := by decide +kernel
theorem dX4_digestOfTexts_118 : decode cX4_digestOfTexts 118 = .ok (.iinc 6 1, 3) := by decide +kernel
theorem dX4_digestOfTexts_121 : decode cX4_digestOfTexts 121 = .ok (.goto (-25), 3) := by decide +kernel
theorem dX4_digestOfTexts_124 : decode cX4_digestOfTexts 124 = .ok (.iinc 5 1, 3) := by decide +kernel
theorem dX4_digestOfTexts_127 : decode cX4_digestOfTexts 127 = .ok (.goto (-46), 3) := by decide +kernel
theorem dX4_digestOfTexts_130 : decode cX4_digestOfTexts 130 = .ok (.lload_n 3, 1) := by decide +kernel
theorem dX4_digestOfTexts_131 : decode cX4_digestOfTexts 131 = .ok (.lreturn, 1) := by decide +kernel
theorem dX4_digestOfTurns_0 : decode cX4_digestOfTurns 0 = .ok (.lload_n 1, 1) := by decide +kernel
theorem dX4_digestOfTurns_1 : decode cX4_digestOfTurns 1 = .ok (.lstore 4, 2) := by decide +kernel
theorem dX4_digestOfTurns_3 : decode cX4_digestOfTurns 3 = .ok (.iconst 0, 1) := by decide +kernel
theorem dX4_digestOfTurns_4 : decode cX4_digestOfTurns 4 = .ok (.istore 6, 2) := by decide +kernel
theorem dX4_digestOfTurns_6 : decode cX4_digestOfTurns 6 = .ok (.iload 6, 2) := by decide +kernel
theorem dX4_digestOfTurns_8 : decode cX4_digestOfTurns 8 = .ok (.iconst 3, 1) := by decide +kernel
theorem dX4_digestOfTurns_9 : decode cX4_digestOfTurns 9 = .ok (.if_icmp .ge 26, 3) := by decide +kernel
theorem dX4_digestOfTurns_12 : decode cX4_digestOfTurns 12 = .ok (.ldc2_w 235, 3) := by decide +kernel
theorem dX4_digestOfTurns_15 : decode cX4_digestOfTurns 15 = .ok (.lload 4, 2) := by decide +kernel
theorem dX4_digestOfTurns_17 : decode cX4_digestOfTurns 17 = .ok (.lmul, 1) := by decide +kernel
theorem dX4_digestOfTurns_18 : decode cX4_digestOfTurns 18 = .ok (.aload_n 0, 1) := by decide +kernel
theorem dX4_digestOfTurns_19 : decode cX4_digestOfTurns 19 = .ok (.iload_n 3, 1) := by decide +kernel
theorem dX4_digestOfTurns_20 : decode cX4_digestOfTurns 20 = .ok (.iload 6, 2) := by decide +kernel
theorem dX4_digestOfTurns_22 : decode cX4_digestOfTurns 22 = .ok (.invokevirtual 269, 3) := by decide +kernel
theorem dX4_digestOfTurns_25 : decode cX4_digestOfTurns 25 = .ok (.i2l, 1) := by decide +kernel
theorem dX4_digestOfTurns_26 : decode cX4_digestOfTurns 26 = .ok (.ladd, 1) := by decide +kernel
theorem dX4_digestOfTurns_27 : decode cX4_digestOfTurns 27 = .ok (.lstore 4, 2) := by decide +kernel
theorem dX4_digestOfTurns_29 : decode cX4_digestOfTurns 29 = .ok (.iinc 6 1, 3) := by decide +kernel
theorem dX4_digestOfTurns_32 : decode cX4_digestOfTurns 32 = .ok (.goto (-26), 3) := by decide +kernel
theorem dX4_digestOfTurns_35 : decode cX4_digestOfTurns 35 = .ok (.ldc2_w 235, 3) := by decide +kernel
theorem dX4_digestOfTurns_38 : decode cX4_digestOfTurns 38 = .ok (.lload 4, 2) := by decide +kernel
theorem dX4_digestOfTurns_40 : decode cX4_digestOfTurns 40 = .ok (.lmul, 1) := by decide +kernel
theorem dX4_digestOfTurns_41 : decode cX4_digestOfTurns 41 = .ok (.aload_n 0, 1) := by decide +kernel
theorem dX4_digestOfTurns_42 : decode cX4_digestOfTurns 42 = .ok (.iload_n 3, 1) := by decide +kernel
theorem dX4_digestOfTurns_43 : decode cX4_digestOfTurns 43 = .ok (.invokevirtual 272, 3) := by decide +kernel
theorem dX4_digestOfTurns_46 : decode cX4_digestOfTurns 46 = .ok (.i2l, 1) := by decide +kernel
theorem dX4_digestOfTurns_47 : decode cX4_digestOfTurns 47 = .ok (.ladd, 1) := by decide +kernel
theorem dX4_digestOfTurns_48 : decode cX4_digestOfTurns 48 = .ok (.lstore 4, 2) := by decide +kernel
theorem dX4_digestOfTurns_50 : decode cX4_digestOfTurns 50 = .ok (.ldc2_w 235, 3) := by decide +kernel
theorem dX4_digestOfTurns_53 : decode cX4_digestOfTurns 53 = .ok (.lload 4, 2) := by decide +kernel
theorem dX4_digestOfTurns_55 : decode cX4_digestOfTurns 55 = .ok (.lmul, 1) := by decide +kernel
theorem dX4_digestOfTurns_56 : decode cX4_digestOfTurns 56 = .ok (.aload_n 0, 1) := by decide +kernel
theorem dX4_digestOfTurns_57 : decode cX4_digestOfTurns 57 = .ok (.iload_n 3, 1) := by decide +kernel
theorem dX4_digestOfTurns_58 : decode cX4_digestOfTurns 58 = .ok (.iconst 1, 1) := by decide +kernel
theorem dX4_digestOfTurns_59 : decode cX4_digestOfTurns 59 = .ok (.iconst 2, 1) := by decide +kernel
theorem dX4_digestOfTurns_60 : decode cX4_digestOfTurns 60 = .ok (.iconst 0, 1) := by decide +kernel
theorem dX4_digestOfTurns_61 : decode cX4_digestOfTurns 61 = .ok (.invokevirtual 275, 3) := by decide +kernel
theorem dX4_digestOfTurns_64 : decode cX4_digestOfTurns 64 = .ok (.i2l, 1) := by decide +kernel
theorem dX4_digestOfTurns_65 : decode cX4_digestOfTurns 65 = .ok (.ladd, 1) := by decide +kernel
theorem dX4_digestOfTurns_66 : decode cX4_digestOfTurns 66 = .ok (.lstore 4, 2) := by decide +kernel
theorem dX4_digestOfTurns_68 : decode cX4_digestOfTurns 68 = .ok (.ldc2_w 235, 3) := by decide +kernel
theorem dX4_digestOfTurns_71 : decode cX4_digestOfTurns 71 = .ok (.lload 4, 2) := by decide +kernel
theorem dX4_digestOfTurns_73 : decode cX4_digestOfTurns 73 = .ok (.lmul, 1) := by decide +kernel
theorem dX4_digestOfTurns_74 : decode cX4_digestOfTurns 74 = .ok (.aload_n 0, 1) := by decide +kernel
theorem dX4_digestOfTurns_75 : decode cX4_digestOfTurns 75 = .ok (.iload_n 3, 1) := by decide +kernel
theorem dX4_digestOfTurns_76 : decode cX4_digestOfTurns 76 = .ok (.iconst 1, 1) := by decide +kernel
theorem dX4_digestOfTurns_77 : decode cX4_digestOfTurns 77 = .ok (.iconst 2, 1) := by decide +kernel
theorem dX4_digestOfTurns_78 : decode cX4_digestOfTurns 78 = .ok (.iconst 1, 1) := by decide +kernel
theorem dX4_digestOfTurns_79 : decode cX4_digestOfTurns 79 = .ok (.invokevirtual 275, 3) := by decide +kernel
theorem dX4_digestOfTurns_82 : decode cX4_digestOfTurns 82 = .ok (.i2l, 1) := by decide +kernel
theorem dX4_digestOfTurns_83 : decode cX4_digestOfTurns 83 = .ok (.ladd, 1) := by decide +kernel
theorem dX4_digestOfTurns_84 : decode cX4_digestOfTurns 84 = .ok (.lstore 4, 2) := by decide +kernel
theorem dX4_digestOfTurns_86 : decode cX4_digestOfTurns 86 = .ok (.ldc2_w 235, 3) := by decide +kernel
theorem dX4_digestOfTurns_89 : decode cX4_digestOfTurns 89 = .ok (.lload 4, 2) := by decide +kernel
theorem dX4_digestOfTurns_91 : decode cX4_digestOfTurns 91 = .ok (.lmul, 1) := by decide +kernel
theorem dX4_digestOfTurns_92 : decode cX4_digestOfTurns 92 = .ok (.aload_n 0, 1) := by decide +kernel
theorem dX4_digestOfTurns_93 : decode cX4_digestOfTurns 93 = .ok (.iload_n 3, 1) := by decide +kernel
theorem dX4_digestOfTurns_94 : decode cX4_digestOfTurns 94 = .ok (.iconst 3, 1) := by decide +kernel
theorem dX4_digestOfTurns_95 : decode cX4_digestOfTurns 95 = .ok (.iconst 0, 1) := by decide +kernel
theorem dX4_digestOfTurns_96 : decode cX4_digestOfTurns 96 = .ok (.invokevirtual 279, 3) := by decide +kernel
theorem dX4_digestOfTurns_99 : decode cX4_digestOfTurns 99 = .ok (.i2l, 1) := by decide +kernel
theorem dX4_digestOfTurns_100 : decode cX4_digestOfTurns 100 = .ok (.ladd, 1) := by decide +kernel
theorem dX4_digestOfTurns_101 : decode cX4_digestOfTurns 101 = .ok (.lstore 4, 2) := by decide +kernel
theorem dX4_digestOfTurns_103 : decode cX4_digestOfTurns 103 = .ok (.ldc2_w 235, 3) := by decide +kernel
theorem dX4_digestOfTurns_106 : decode cX4_digestOfTurns 106 = .ok (.lload 4, 2) := by decide +kernel
theorem dX4_digestOfTurns_108 : decode cX4_digestOfTurns 108 = .ok (.lmul, 1) := by decide +kernel
theorem dX4_digestOfTurns_109 : decode cX4_digestOfTurns 109 = .ok (.aload_n 0, 1) := by decide +kernel
theorem dX4_digestOfTurns_110 : decode cX4_digestOfTurns 110 = .ok (.iload_n 3, 1) := by decide +kernel
theorem dX4_digestOfTurns_111 : decode cX4_digestOfTurns 111 = .ok (.iconst 3, 1) := by decide +kernel
theorem dX4_digestOfTurns_112 : decode cX4_digestOfTurns 112 = .ok (.iconst 1, 1) := by decide +kernel
theorem dX4_digestOfTurns_113 : decode cX4_digestOfTurns 113 = .ok (.invokevirtual 279, 3) := by decide +kernel
theorem dX4_digestOfTurns_116 : decode cX4_digestOfTurns 116 = .ok (.i2l, 1) := by decide +kernel
theorem dX4_digestOfTurns_117 : decode cX4_digestOfTurns 117 = .ok (.ladd, 1) := by decide +kernel
theorem dX4_digestOfTurns_118 : decode cX4_digestOfTurns 118 = .ok (.lstore 4, 2) := by decide +kernel
theorem dX4_digestOfTurns_120 : decode cX4_digestOfTurns 120 = .ok (.ldc2_w 235, 3) := by decide +kernel
theorem dX4_digestOfTurns_123 : decode cX4_digestOfTurns 123 = .ok (.lload 4, 2) := by decide +kernel
theorem dX4_digestOfTurns_125 : decode cX4_digestOfTurns 125 = .ok (.lmul, 1) := by decide +kernel
theorem dX4_digestOfTurns_126 : decode cX4_digestOfTurns 126 = .ok (.aload_n 0, 1) := by decide +kernel
theorem dX4_digestOfTurns_127 : decode cX4_digestOfTurns 127 = .ok (.iload_n 3, 1) := by decide +kernel
theorem dX4_digestOfTurns_128 : decode cX4_digestOfTurns 128 = .ok (.iconst 0, 1) := by decide +kernel
theorem dX4_digestOfTurns_129 : decode cX4_digestOfTurns 129 = .ok (.invokevirtual 282, 3) := by decide +kernel
theorem dX4_digestOfTurns_132 : decode cX4_digestOfTurns 132 = .ok (.i2l, 1) := by decide +kernel
theorem dX4_digestOfTurns_133 : decode cX4_digestOfTurns 133 = .ok (.ladd, 1) := by decide +kernel
theorem dX4_digestOfTurns_134 : decode cX4_digestOfTurns 134 = .ok (.lreturn, 1) := by decide +kernel
theorem dX4_digestOfLaw_0 : decode cX4_digestOfLaw 0 = .ok (.ldc2_w 235, 3) := by decide +kernel
theorem dX4_digestOfLaw_3 : decode cX4_digestOfLaw 3 = .ok (.lload_n 1, 1) := by decide +kernel
theorem dX4_digestOfLaw_4 : decode cX4_digestOfLaw 4 = .ok (.lmul, 1) := by decide +kernel
theorem dX4_digestOfLaw_5 : decode cX4_digestOfLaw 5 = .ok (.aload_n 0, 1) := by decide +kernel
theorem dX4_digestOfLaw_6 : decode cX4_digestOfLaw 6 = .ok (.iload_n 3, 1) := by decide +kernel
theorem dX4_digestOfLaw_7 : decode cX4_digestOfLaw 7 = .ok (.invokevirtual 285, 3) := by decide +kernel
theorem dX4_digestOfLaw_10 : decode cX4_digestOfLaw 10 = .ok (.i2l, 1) := by decide +kernel
theorem dX4_digestOfLaw_11 : decode cX4_digestOfLaw 11 = .ok (.ladd, 1) := by decide +kernel
theorem dX4_digestOfLaw_12 : decode cX4_digestOfLaw 12 = .ok (.lstore 4, 2) := by decide +kernel
theorem dX4_digestOfLaw_14 : decode cX4_digestOfLaw 14 = .ok (.ldc2_w 235, 3) := by decide +kernel
theorem dX4_digestOfLaw_17 : decode cX4_digestOfLaw 17 = .ok (.lload 4, 2) := by decide +kernel
theorem dX4_digestOfLaw_19 : decode cX4_digestOfLaw 19 = .ok (.lmul, 1) := by decide +kernel
theorem dX4_digestOfLaw_20 : decode cX4_digestOfLaw 20 = .ok (.aload_n 0, 1) := by decide +kernel
theorem dX4_digestOfLaw_21 : decode cX4_digestOfLaw 21 = .ok (.iload_n 3, 1) := by decide +kernel
theorem dX4_digestOfLaw_22 : decode cX4_digestOfLaw 22 = .ok (.iconst 0, 1) := by decide +kernel
theorem dX4_digestOfLaw_23 : decode cX4_digestOfLaw 23 = .ok (.invokevirtual 288, 3) := by decide +kernel
theorem dX4_digestOfLaw_26 : decode cX4_digestOfLaw 26 = .ok (.i2l, 1) := by decide +kernel
theorem dX4_digestOfLaw_27 : decode cX4_digestOfLaw 27 = .ok (.ladd, 1) := by decide +kernel
theorem dX4_digestOfLaw_28 : decode cX4_digestOfLaw 28 = .ok (.lstore 4, 2) := by decide +kernel
theorem dX4_digestOfLaw_30 : decode cX4_digestOfLaw 30 = .ok (.ldc2_w 235, 3) := by decide +kernel
theorem dX4_digestOfLaw_33 : decode cX4_digestOfLaw 33 = .ok (.lload 4, 2) := by decide +kernel
theorem dX4_digestOfLaw_35 : decode cX4_digestOfLaw 35 = .ok (.lmul, 1) := by decide +kernel
theorem dX4_digestOfLaw_36 : decode cX4_digestOfLaw 36 = .ok (.aload_n 0, 1) := by decide +kernel
theorem dX4_digestOfLaw_37 : decode cX4_digestOfLaw 37 = .ok (.iload_n 3, 1) := by decide +kernel
theorem dX4_digestOfLaw_38 : decode cX4_digestOfLaw 38 = .ok (.iconst 1, 1) := by decide +kernel
theorem dX4_digestOfLaw_39 : decode cX4_digestOfLaw 39 = .ok (.invokevirtual 288, 3) := by decide +kernel
theorem dX4_digestOfLaw_42 : decode cX4_digestOfLaw 42 = .ok (.i2l, 1) := by decide +kernel
theorem dX4_digestOfLaw_43 : decode cX4_digestOfLaw 43 = .ok (.ladd, 1) := by decide +kernel
theorem dX4_digestOfLaw_44 : decode cX4_digestOfLaw 44 = .ok (.lstore 4, 2) := by decide +kernel
theorem dX4_digestOfLaw_46 : decode cX4_digestOfLaw 46 = .ok (.ldc2_w 235, 3) := by decide +kernel
theorem dX4_digestOfLaw_49 : decode cX4_digestOfLaw 49 = .ok (.lload 4, 2) := by decide +kernel
theorem dX4_digestOfLaw_51 : decode cX4_digestOfLaw 51 = .ok (.lmul, 1) := by decide +kernel
theorem dX4_digestOfLaw_52 : decode cX4_digestOfLaw 52 = .ok (.aload_n 0, 1) := by decide +kernel
theorem dX4_digestOfLaw_53 : decode cX4_digestOfLaw 53 = .ok (.iconst 5, 1) := by decide +kernel
theorem dX4_digestOfLaw_54 : decode cX4_digestOfLaw 54 = .ok (.iconst 1, 1) := by decide +kernel
theorem dX4_digestOfLaw_55 : decode cX4_digestOfLaw 55 = .ok (.iload_n 3, 1) := by decide +kernel
theorem dX4_digestOfLaw_56 : decode cX4_digestOfLaw 56 = .ok (.iconst 0, 1) := by decide +kernel
theorem dX4_digestOfLaw_57 : decode cX4_digestOfLaw 57 = .ok (.invokevirtual 291, 3) := by decide +kernel
theorem dX4_digestOfLaw_60 : decode cX4_digestOfLaw 60 = .ok (.ladd, 1) := by decide +kernel
theorem dX4_digestOfLaw_61 : decode cX4_digestOfLaw 61 = .ok (.lstore 4, 2) := by decide +kernel
theorem dX4_digestOfLaw_63 : decode cX4_digestOfLaw 63 = .ok (.ldc2_w 235, 3) := by decide +kernel
theorem dX4_digestOfLaw_66 : decode cX4_digestOfLaw 66 = .ok (.lload 4, 2) := by decide +kernel
theorem dX4_digestOfLaw_68 : decode cX4_digestOfLaw 68 = .ok (.lmul, 1) := by decide +kernel
theorem dX4_digestOfLaw_69 : decode cX4_digestOfLaw 69 = .ok (.aload_n 0, 1) := by decide +kernel
theorem dX4_digestOfLaw_70 : decode cX4_digestOfLaw 70 = .ok (.iconst 5, 1) := by decide +kernel
theorem dX4_digestOfLaw_71 : decode cX4_digestOfLaw 71 = .ok (.iconst 1, 1) := by decide +kernel
theorem dX4_digestOfLaw_72 : decode cX4_digestOfLaw 72 = .ok (.iload_n 3, 1) := by decide +kernel
theorem dX4_digestOfLaw_73 : decode cX4_digestOfLaw 73 = .ok (.iconst 1, 1) := by decide +kernel
theorem dX4_digestOfLaw_74 : decode cX4_digestOfLaw 74 = .ok (.invokevirtual 291, 3) := by decide +kernel
theorem dX4_digestOfLaw_77 : decode cX4_digestOfLaw 77 = .ok (.ladd, 1) := by decide +kernel
theorem dX4_digestOfLaw_78 : decode cX4_digestOfLaw 78 = .ok (.lstore 4, 2) := by decide +kernel
theorem dX4_digestOfLaw_80 : decode cX4_digestOfLaw 80 = .ok (.ldc2_w 235, 3) := by decide +kernel
theorem dX4_digestOfLaw_83 : decode cX4_digestOfLaw 83 = .ok (.lload 4, 2) := by decide +kernel
theorem dX4_digestOfLaw_85 : decode cX4_digestOfLaw 85 = .ok (.lmul, 1) := by decide +kernel
theorem dX4_digestOfLaw_86 : decode cX4_digestOfLaw 86 = .ok (.aload_n 0, 1) := by decide +kernel
theorem dX4_digestOfLaw_87 : decode cX4_digestOfLaw 87 = .ok (.bipush 7, 2) := by decide +kernel
theorem dX4_digestOfLaw_89 : decode cX4_digestOfLaw 89 = .ok (.bipush 20, 2) := by decide +kernel
theorem dX4_digestOfLaw_91 : decode cX4_digestOfLaw 91 = .ok (.iload_n 3, 1) := by decide +kernel
theorem dX4_digestOfLaw_92 : decode cX4_digestOfLaw 92 = .ok (.invokevirtual 295, 3) := by decide +kernel
theorem dX4_digestOfLaw_95 : decode cX4_digestOfLaw 95 = .ok (.i2l, 1) := by decide +kernel
theorem dX4_digestOfLaw_96 : decode cX4_digestOfLaw 96 = .ok (.ladd, 1) := by decide +kernel
theorem dX4_digestOfLaw_97 : decode cX4_digestOfLaw 97 = .ok (.lreturn, 1) := by decide +kernel
theorem dX4_below_0 : decode cX4_below 0 = .ok (.iload_n 0, 1) := by decide +kernel
theorem dX4_below_1 : decode cX4_below 1 = .ok (.ifCond .lt 12, 3) := by decide +kernel
theorem dX4_below_4 : decode cX4_below 4 = .ok (.iload_n 0, 1) := by decide +kernel
theorem dX4_below_5 : decode cX4_below 5 = .ok (.iload_n 1, 1) := by decide +kernel
theorem dX4_below_6 : decode cX4_below 6 = .ok (.if_icmp .ge 7, 3) := by decide +kernel
theorem dX4_below_9 : decode cX4_below 9 = .ok (.iconst 1, 1) := by decide +kernel
theorem dX4_below_10 : decode cX4_below 10 = .ok (.goto 4, 3) := by decide +kernel
theorem dX4_below_13 : decode cX4_below 13 = .ok (.iconst 0, 1) := by decide +kernel
theorem dX4_below_14 : decode cX4_below 14 = .ok (.ireturn, 1) := by decide +kernel
theorem dX4_areLaws_0 : decode cX4_areLaws 0 = .ok (.iload_n 0, 1) := by decide +kernel
theorem dX4_areLaws_1 : decode cX4_areLaws 1 = .ok (.ifCond .lt 14, 3) := by decide +kernel
theorem dX4_areLaws_4 : decode cX4_areLaws 4 = .ok (.iload_n 0, 1) := by decide +kernel
theorem dX4_areLaws_5 : decode cX4_areLaws 5 = .ok (.sipush 255, 3) := by decide +kernel
theorem dX4_areLaws_8 : decode cX4_areLaws 8 = .ok (.if_icmp .gt 7, 3) := by decide +kernel
theorem dX4_areLaws_11 : decode cX4_areLaws 11 = .ok (.iconst 1, 1) := by decide +kernel
theorem dX4_areLaws_12 : decode cX4_areLaws 12 = .ok (.goto 4, 3) := by decide +kernel
theorem dX4_areLaws_15 : decode cX4_areLaws 15 = .ok (.iconst 0, 1) := by decide +kernel
theorem dX4_areLaws_16 : decode cX4_areLaws 16 = .ok (.ireturn, 1) := by decide +kernel
theorem dX4_howManyOrBits_0 : decode cX4_howManyOrBits 0 = .ok (.iload_n 0, 1) := by decide +kernel
theorem dX4_howManyOrBits_1 : decode cX4_howManyOrBits 1 = .ok (.iconst (-1), 1) := by decide +kernel
theorem dX4_howManyOrBits_2 : decode cX4_howManyOrBits 2 = .ok (.if_icmp .eq 8, 3) := by decide +kernel
theorem dX4_howManyOrBits_5 : decode cX4_howManyOrBits 5 = .ok (.iload_n 1, 1) := by decide +kernel
theorem dX4_howManyOrBits_6 : decode cX4_howManyOrBits 6 = .ok (.iconst 1, 1) := by decide +kernel
theorem dX4_howManyOrBits_7 : decode cX4_howManyOrBits 7 = .ok (.if_icmp .ne 7, 3) := by decide +kernel
theorem dX4_howManyOrBits_10 : decode cX4_howManyOrBits 10 = .ok (.iload_n 0, 1) := by decide +kernel
theorem dX4_howManyOrBits_11 : decode cX4_howManyOrBits 11 = .ok (.goto 7, 3) := by decide +kernel
theorem dX4_howManyOrBits_14 : decode cX4_howManyOrBits 14 = .ok (.iload_n 0, 1) := by decide +kernel
theorem dX4_howManyOrBits_15 : decode cX4_howManyOrBits 15 = .ok (.invokestatic 139, 3) := by decide +kernel
theorem dX4_howManyOrBits_18 : decode cX4_howManyOrBits 18 = .ok (.ireturn, 1) := by decide +kernel
theorem dX4_textOf_0 : decode cX4_textOf 0 = .ok (.iload_n 1, 1) := by decide +kernel
theorem dX4_textOf_1 : decode cX4_textOf 1 = .ok (.ifCond .ne 10, 3) := by decide +kernel
theorem dX4_textOf_4 : decode cX4_textOf 4 = .ok (.aload_n 0, 1) := by decide +kernel
theorem dX4_textOf_5 : decode cX4_textOf 5 = .ok (.getfield 14, 3) := by decide +kernel
theorem dX4_textOf_8 : decode cX4_textOf 8 = .ok (.goto 7, 3) := by decide +kernel
theorem dX4_textOf_11 : decode cX4_textOf 11 = .ok (.aload_n 0, 1) := by decide +kernel
theorem dX4_textOf_12 : decode cX4_textOf 12 = .ok (.getfield 18, 3) := by decide +kernel
theorem dX4_textOf_15 : decode cX4_textOf 15 = .ok (.areturn, 1) := by decide +kernel
theorem dX4_turnsOn_0 : decode cX4_turnsOn 0 = .ok (.aload_n 0, 1) := by decide +kernel
theorem dX4_turnsOn_1 : decode cX4_turnsOn 1 = .ok (.getfield 51, 3) := by decide +kernel
theorem dX4_turnsOn_4 : decode cX4_turnsOn 4 = .ok (.iload_n 1, 1) := by decide +kernel
theorem dX4_turnsOn_5 : decode cX4_turnsOn 5 = .ok (.aload_n 0, 1) := by decide +kernel
theorem dX4_turnsOn_6 : decode cX4_turnsOn 6 = .ok (.getfield 55, 3) := by decide +kernel
theorem dX4_turnsOn_9 : decode cX4_turnsOn 9 = .ok (.imul, 1) := by decide +kernel
theorem dX4_turnsOn_10 : decode cX4_turnsOn 10 = .ok (.iadd, 1) := by decide +kernel
theorem dX4_turnsOn_11 : decode cX4_turnsOn 11 = .ok (.iconst 4, 1) := by decide +kernel
theorem dX4_turnsOn_12 : decode cX4_turnsOn 12 = .ok (.irem, 1) := by decide +kernel
theorem dX4_turnsOn_13 : decode cX4_turnsOn 13 = .ok (.ireturn, 1) := by decide +kernel
theorem dX4_brokenDeeds_0 : decode cX4_brokenDeeds 0 = .ok (.iconst 0, 1) := by decide +kernel
theorem dX4_brokenDeeds_1 : decode cX4_brokenDeeds 1 = .ok (.istore_n 2, 1) := by decide +kernel
theorem dX4_brokenDeeds_2 : decode cX4_brokenDeeds 2 = .ok (.iconst 0, 1) := by decide +kernel
theorem dX4_brokenDeeds_3 : decode cX4_brokenDeeds 3 = .ok (.istore_n 3, 1) := by decide +kernel
theorem dX4_brokenDeeds_4 : decode cX4_brokenDeeds 4 = .ok (.iload_n 3, 1) := by decide +kernel
theorem dX4_brokenDeeds_5 : decode cX4_brokenDeeds 5 = .ok (.aload_n 0, 1) := by decide +kernel
theorem dX4_brokenDeeds_6 : decode cX4_brokenDeeds 6 = .ok (.getfield 30, 3) := by decide +kernel
theorem dX4_brokenDeeds_9 : decode cX4_brokenDeeds 9 = .ok (.getfield 229, 3) := by decide +kernel
theorem dX4_brokenDeeds_12 : decode cX4_brokenDeeds 12 = .ok (.if_icmp .ge 44, 3) := by decide +kernel
theorem dX4_brokenDeeds_15 : decode cX4_brokenDeeds 15 = .ok (.aload_n 1, 1) := by decide +kernel
theorem dX4_brokenDeeds_16 : decode cX4_brokenDeeds 16 = .ok (.aload_n 0, 1) := by decide +kernel
theorem dX4_brokenDeeds_17 : decode cX4_brokenDeeds 17 = .ok (.aload_n 0, 1) := by decide +kernel
theorem dX4_brokenDeeds_18 : decode cX4_brokenDeeds 18 = .ok (.getfield 30, 3) := by decide +kernel
theorem dX4_brokenDeeds_21 : decode cX4_brokenDeeds 21 = .ok (.getfield 298, 3) := by decide +kernel
theorem dX4_brokenDeeds_24 : decode cX4_brokenDeeds 24 = .ok (.iload_n 3, 1) := by decide +kernel
theorem dX4_brokenDeeds_25 : decode cX4_brokenDeeds 25 = .ok (.iaload, 1) := by decide +kernel
theorem dX4_brokenDeeds_26 : decode cX4_brokenDeeds 26 = .ok (.invokevirtual 119, 3) := by decide +kernel
theorem dX4_brokenDeeds_29 : decode cX4_brokenDeeds 29 = .ok (.aload_n 0, 1) := by decide +kernel
theorem dX4_brokenDeeds_30 : decode cX4_brokenDeeds 30 = .ok (.getfield 30, 3) := by decide +kernel
theorem dX4_brokenDeeds_33 : decode cX4_brokenDeeds 33 = .ok (.getfield 301, 3) := by decide +kernel
theorem dX4_brokenDeeds_36 : decode cX4_brokenDeeds 36 = .ok (.iload_n 3, 1) := by decide +kernel
theorem dX4_brokenDeeds_37 : decode cX4_brokenDeeds 37 = .ok (.iaload, 1) := by decide +kernel
theorem dX4_brokenDeeds_38 : decode cX4_brokenDeeds 38 = .ok (.invokevirtual 129, 3) := by decide +kernel
theorem dX4_brokenDeeds_41 : decode cX4_brokenDeeds 41 = .ok (.ifCond .eq 9, 3) := by decide +kernel
theorem dX4_brokenDeeds_44 : decode cX4_brokenDeeds 44 = .ok (.iload_n 2, 1) := by decide +kernel
theorem dX4_brokenDeeds_45 : decode cX4_brokenDeeds 45 = .ok (.iconst 1, 1) := by decide +kernel
theorem dX4_brokenDeeds_46 : decode cX4_brokenDeeds 46 = .ok (.iload_n 3, 1) := by decide +kernel
theorem dX4_brokenDeeds_47 : decode cX4_brokenDeeds 47 = .ok (.ishl, 1) := by decide +kernel
theorem dX4_brokenDeeds_48 : decode cX4_brokenDeeds 48 = .ok (.ior, 1) := by decide +kernel
theorem dX4_brokenDeeds_49 : decode cX4_brokenDeeds 49 = .ok (.istore_n 2, 1) := by decide +kernel
theorem dX4_brokenDeeds_50 : decode cX4_brokenDeeds 50 = .ok (.iinc 3 1, 3) := by decide +kernel
theorem dX4_brokenDeeds_53 : decode cX4_brokenDeeds 53 = .ok (.goto (-49), 3) := by decide +kernel
theorem dX4_brokenDeeds_56 : decode cX4_brokenDeeds 56 = .ok (.iload_n 2, 1) := by decide +kernel
theorem dX4_brokenDeeds_57 : decode cX4_brokenDeeds 57 = .ok (.ireturn, 1) := by decide +kernel
theorem dX4_earliestDeed_0 : decode cX4_earliestDeed 0 = .ok (.iconst (-1), 1) := by decide +kernel
theorem dX4_earliestDeed_1 : decode cX4_earliestDeed 1 = .ok (.istore_n 2, 1) := by decide +kernel
theorem dX4_earliestDeed_2 : decode cX4_earliestDeed 2 = .ok (.bipush 28, 2) := by decide +kernel
theorem dX4_earliestDeed_4 : decode cX4_earliestDeed 4 = .ok (.istore_n 3, 1) := by decide +kernel
theorem dX4_earliestDeed_5 : decode cX4_earliestDeed 5 = .ok (.iconst 0, 1) := by decide +kernel
theorem dX4_earliestDeed_6 : decode cX4_earliestDeed 6 = .ok (.istore 4, 2) := by decide +kernel
theorem dX4_earliestDeed_8 : decode cX4_earliestDeed 8 = .ok (.iload 4, 2) := by decide +kernel
theorem dX4_earliestDeed_10 : decode cX4_earliestDeed 10 = .ok (.aload_n 0, 1) := by decide +kernel
theorem dX4_earliestDeed_11 : decode cX4_earliestDeed 11 = .ok (.getfield 30, 3) := by decide +kernel
theorem dX4_earliestDeed_14 : decode cX4_earliestDeed 14 = .ok (.getfield 229, 3) := by decide +kernel
theorem dX4_earliestDeed_17 : decode cX4_earliestDeed 17 = .ok (.if_icmp .ge 47, 3) := by decide +kernel
theorem dX4_earliestDeed_20 : decode cX4_earliestDeed 20 = .ok (.iload_n 1, 1) := by decide +kernel
theorem dX4_earliestDeed_21 : decode cX4_earliestDeed 21 = .ok (.iload 4, 2) := by decide +kernel
theorem dX4_earliestDeed_23 : decode cX4_earliestDeed 23 = .ok (.ishr, 1) := by decide +kernel
theorem dX4_earliestDeed_24 : decode cX4_earliestDeed 24 = .ok (.iconst 1, 1) := by decide +kernel
theorem dX4_earliestDeed_25 : decode cX4_earliestDeed 25 = .ok (.iand, 1) := by decide +kernel
theorem dX4_earliestDeed_26 : decode cX4_earliestDeed 26 = .ok (.iconst 1, 1) := by decide +kernel
theorem dX4_earliestDeed_27 : decode cX4_earliestDeed 27 = .ok (.if_icmp .ne 31, 3) := by decide +kernel
theorem dX4_earliestDeed_30 : decode cX4_earliestDeed 30 = .ok (.aload_n 0, 1) := by decide +kernel
theorem dX4_earliestDeed_31 : decode cX4_earliestDeed 31 = .ok (.getfield 30, 3) := by decide +kernel
theorem dX4_earliestDeed_34 : decode cX4_earliestDeed 34 = .ok (.getfield 298, 3) := by decide +kernel
theorem dX4_earliestDeed_37 : decode cX4_earliestDeed 37 = .ok (.iload 4, 2) := by decide +kernel
theorem dX4_earliestDeed_39 : decode cX4_earliestDeed 39 = .ok (.iaload, 1) := by decide +kernel
theorem dX4_earliestDeed_40 : decode cX4_earliestDeed 40 = .ok (.iload_n 3, 1) := by decide +kernel
theorem dX4_earliestDeed_41 : decode cX4_earliestDeed 41 = .ok (.if_icmp .ge 17, 3) := by decide +kernel
theorem dX4_earliestDeed_44 : decode cX4_earliestDeed 44 = .ok (.iload 4, 2) := by decide +kernel
theorem dX4_earliestDeed_46 : decode cX4_earliestDeed 46 = .ok (.istore_n 2, 1) := by decide +kernel
theorem dX4_earliestDeed_47 : decode cX4_earliestDeed 47 = .ok (.aload_n 0, 1) := by decide +kernel
theorem dX4_earliestDeed_48 : decode cX4_earliestDeed 48 = .ok (.getfield 30, 3) := by decide +kernel
theorem dX4_earliestDeed_51 : decode cX4_earliestDeed 51 = .ok (.getfield 298, 3) := by decide +kernel
theorem dX4_earliestDeed_54 : decode cX4_earliestDeed 54 = .ok (.iload 4, 2) := by decide +kernel
theorem dX4_earliestDeed_56 : decode cX4_earliestDeed 56 = .ok (.iaload, 1) := by decide +kernel
theorem dX4_earliestDeed_57 : decode cX4_earliestDeed 57 = .ok (.istore_n 3, 1) := by decide +kernel
theorem dX4_earliestDeed_58 : decode cX4_earliestDeed 58 = .ok (.iinc 4 1, 3) := by decide +kernel
theorem dX4_earliestDeed_61 : decode cX4_earliestDeed 61 = .ok (.goto (-53), 3) := by decide +kernel
theorem dX4_earliestDeed_64 : decode cX4_earliestDeed 64 = .ok (.iload_n 2, 1) := by decide +kernel
theorem dX4_earliestDeed_65 : decode cX4_earliestDeed 65 = .ok (.ireturn, 1) := by decide +kernel
theorem dX4_wouldFit_0 : decode cX4_wouldFit 0 = .ok (.iconst 0, 1) := by decide +kernel
theorem dX4_wouldFit_1 : decode cX4_wouldFit 1 = .ok (.istore 4, 2) := by decide +kernel
theorem dX4_wouldFit_3 : decode cX4_wouldFit 3 = .ok (.iload 4, 2) := by decide +kernel
theorem dX4_wouldFit_5 : decode cX4_wouldFit 5 = .ok (.aload_n 0, 1) := by decide +kernel
theorem dX4_wouldFit_6 : decode cX4_wouldFit 6 = .ok (.getfield 33, 3) := by decide +kernel
theorem dX4_wouldFit_9 : decode cX4_wouldFit 9 = .ok (.getfield 229, 3) := by decide +kernel
theorem dX4_wouldFit_12 : decode cX4_wouldFit 12 = .ok (.if_icmp .ge 40, 3) := by decide +kernel
theorem dX4_wouldFit_15 : decode cX4_wouldFit 15 = .ok (.aload_n 1, 1) := by decide +kernel
theorem dX4_wouldFit_16 : decode cX4_wouldFit 16 = .ok (.iload_n 2, 1) := by decide +kernel
theorem dX4_wouldFit_17 : decode cX4_wouldFit 17 = .ok (.iload_n 3, 1) := by decide +kernel
theorem dX4_wouldFit_18 : decode cX4_wouldFit 18 = .ok (.aload_n 0, 1) := by decide +kernel
theorem dX4_wouldFit_19 : decode cX4_wouldFit 19 = .ok (.getfield 33, 3) := by decide +kernel
theorem dX4_wouldFit_22 : decode cX4_wouldFit 22 = .ok (.getfield 298, 3) := by decide +kernel
theorem dX4_wouldFit_25 : decode cX4_wouldFit 25 = .ok (.iload 4, 2) := by decide +kernel
theorem dX4_wouldFit_27 : decode cX4_wouldFit 27 = .ok (.iaload, 1) := by decide +kernel
theorem dX4_wouldFit_28 : decode cX4_wouldFit 28 = .ok (.invokevirtual 304, 3) := by decide +kernel
theorem dX4_wouldFit_31 : decode cX4_wouldFit 31 = .ok (.aload_n 0, 1) := by decide +kernel
theorem dX4_wouldFit_32 : decode cX4_wouldFit 32 = .ok (.getfield 33, 3) := by decide +kernel
theorem dX4_wouldFit_35 : decode cX4_wouldFit 35 = .ok (.getfield 301, 3) := by decide +kernel
theorem dX4_wouldFit_38 : decode cX4_wouldFit 38 = .ok (.iload 4, 2) := by decide +kernel
theorem dX4_wouldFit_40 : decode cX4_wouldFit 40 = .ok (.iaload, 1) := by decide +kernel
theorem dX4_wouldFit_41 : decode cX4_wouldFit 41 = .ok (.if_icmp .eq 5, 3) := by decide +kernel
theorem dX4_wouldFit_44 : decode cX4_wouldFit 44 = .ok (.iconst 0, 1) := by decide +kernel
theorem dX4_wouldFit_45 : decode cX4_wouldFit 45 = .ok (.ireturn, 1) := by decide +kernel
theorem dX4_wouldFit_46 : decode cX4_wouldFit 46 = .ok (.iinc 4 1, 3) := by decide +kernel
theorem dX4_wouldFit_49 : decode cX4_wouldFit 49 = .ok (.goto (-46), 3) := by decide +kernel
theorem dX4_wouldFit_52 : decode cX4_wouldFit 52 = .ok (.iconst 1, 1) := by decide +kernel
theorem dX4_wouldFit_53 : decode cX4_wouldFit 53 = .ok (.ireturn, 1) := by decide +kernel
theorem dX4_rulesWithPlus_0 : decode cX4_rulesWithPlus 0 = .ok (.iconst 0, 1) := by decide +kernel
theorem dX4_rulesWithPlus_1 : decode cX4_rulesWithPlus 1 = .ok (.istore_n 1, 1) := by decide +kernel
theorem dX4_rulesWithPlus_2 : decode cX4_rulesWithPlus 2 = .ok (.iconst 0, 1) := by decide +kernel
theorem dX4_rulesWithPlus_3 : decode cX4_rulesWithPlus 3 = .ok (.istore_n 2, 1) := by decide +kernel
theorem dX4_rulesWithPlus_4 : decode cX4_rulesWithPlus 4 = .ok (.iload_n 2, 1) := by decide +kernel
theorem dX4_rulesWithPlus_5 : decode cX4_rulesWithPlus 5 = .ok (.aload_n 0, 1) := by decide +kernel
theorem dX4_rulesWithPlus_6 : decode cX4_rulesWithPlus 6 = .ok (.getfield 18, 3) := by decide +kernel
theorem dX4_rulesWithPlus_9 : decode cX4_rulesWithPlus 9 = .ok (.getfield 88, 3) := by decide +kernel
theorem dX4_rulesWithPlus_12 : decode cX4_rulesWithPlus 12 = .ok (.if_icmp .ge 21, 3) := by decide +kernel
theorem dX4_rulesWithPlus_15 : decode cX4_rulesWithPlus 15 = .ok (.iload_n 1, 1) := by decide +kernel
theorem dX4_rulesWithPlus_16 : decode cX4_rulesWithPlus 16 = .ok (.aload_n 0, 1) := by decide +kernel
theorem dX4_rulesWithPlus_17 : decode cX4_rulesWithPlus 17 = .ok (.getfield 18, 3) := by decide +kernel
theorem dX4_rulesWithPlus_20 : decode cX4_rulesWithPlus 20 = .ok (.iload_n 2, 1) := by decide +kernel
theorem dX4_rulesWithPlus_21 : decode cX4_rulesWithPlus 21 = .ok (.iconst 3, 1) := by decide +kernel
theorem dX4_rulesWithPlus_22 : decode cX4_rulesWithPlus 22 = .ok (.invokevirtual 91, 3) := by decide +kernel
theorem dX4_rulesWithPlus_25 : decode cX4_rulesWithPlus 25 = .ok (.iadd, 1) := by decide +kernel
theorem dX4_rulesWithPlus_26 : decode cX4_rulesWithPlus 26 = .ok (.istore_n 1, 1) := by decide +kernel
theorem dX4_rulesWithPlus_27 : decode cX4_rulesWithPlus 27 = .ok (.iinc 2 1, 3) := by decide +kernel
theorem dX4_rulesWithPlus_30 : decode cX4_rulesWithPlus 30 = .ok (.goto (-26), 3) := by decide +kernel
theorem dX4_rulesWithPlus_33 : decode cX4_rulesWithPlus 33 = .ok (.iload_n 1, 1) := by decide +kernel
theorem dX4_rulesWithPlus_34 : decode cX4_rulesWithPlus 34 = .ok (.ireturn, 1) := by decide +kernel
theorem dX4_find_0 : decode cX4_find 0 = .ok (.aload_n 0, 1) := by decide +kernel
theorem dX4_find_1 : decode cX4_find 1 = .ok (.iload_n 1, 1) := by decide +kernel
theorem dX4_find_2 : decode cX4_find 2 = .ok (.putfield 58, 3) := by decide +kernel
theorem dX4_find_5 : decode cX4_find 5 = .ok (.bipush (-10), 2) := by decide +kernel
theorem dX4_find_7 : decode cX4_find 7 = .ok (.iload_n 1, 1) := by decide +kernel
theorem dX4_find_8 : decode cX4_find 8 = .ok (.isub, 1) := by decide +kernel
theorem dX4_find_9 : decode cX4_find 9 = .ok (.ireturn, 1) := by decide +kernel
theorem dX4_itemFinding_0 : decode cX4_itemFinding 0 = .ok (.aload_n 0, 1) := by decide +kernel
theorem dX4_itemFinding_1 : decode cX4_itemFinding 1 = .ok (.invokevirtual 161, 3) := by decide +kernel
theorem dX4_itemFinding_4 : decode cX4_itemFinding 4 = .ok (.ifCond .eq 5, 3) := by decide +kernel
theorem dX4_itemFinding_7 : decode cX4_itemFinding 7 = .ok (.iconst 1, 1) := by decide +kernel
theorem dX4_itemFinding_8 : decode cX4_itemFinding 8 = .ok (.ireturn, 1) := by decide +kernel
theorem dX4_itemFinding_9 : decode cX4_itemFinding 9 = .ok (.aload_n 0, 1) := by decide +kernel
theorem dX4_itemFinding_10 : decode cX4_itemFinding 10 = .ok (.getfield 214, 3) := by decide +kernel
theorem dX4_itemFinding_13 : decode cX4_itemFinding 13 = .ok (.iload_n 1, 1) := by decide +kernel
theorem dX4_itemFinding_14 : decode cX4_itemFinding 14 = .ok (.if_icmp .eq 5, 3) := by decide +kernel
theorem dX4_itemFinding_17 : decode cX4_itemFinding 17 = .ok (.iconst 3, 1) := by decide +kernel
theorem dX4_itemFinding_18 : decode cX4_itemFinding 18 = .ok (.ireturn, 1) := by decide +kernel
theorem dX4_itemFinding_19 : decode cX4_itemFinding 19 = .ok (.iload_n 2, 1) := by decide +kernel
theorem dX4_itemFinding_20 : decode cX4_itemFinding 20 = .ok (.aload_n 0, 1) := by decide +kernel
theorem dX4_itemFinding_21 : decode cX4_itemFinding 21 = .ok (.getfield 168, 3) := by decide +kernel
theorem dX4_itemFinding_24 : decode cX4_itemFinding 24 = .ok (.invokestatic 62, 3) := by decide +kernel
theorem dX4_itemFinding_27 : decode cX4_itemFinding 27 = .ok (.ifCond .eq 7, 3) := by decide +kernel
theorem dX4_itemFinding_30 : decode cX4_itemFinding 30 = .ok (.iconst 0, 1) := by decide +kernel
theorem dX4_itemFinding_31 : decode cX4_itemFinding 31 = .ok (.goto 4, 3) := by decide +kernel
theorem dX4_itemFinding_34 : decode cX4_itemFinding 34 = .ok (.iconst 2, 1) := by decide +kernel
theorem dX4_itemFinding_35 : decode cX4_itemFinding 35 = .ok (.ireturn, 1) := by decide +kernel
