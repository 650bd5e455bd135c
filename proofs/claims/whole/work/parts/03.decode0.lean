theorem dX0_init_0 : decode cX0_init 0 = .ok (.aload_n 0, 1) := by decide +kernel
theorem dX0_init_1 : decode cX0_init 1 = .ok (.invokespecial 3, 3) := by decide +kernel
theorem dX0_init_4 : decode cX0_init 4 = .ok (.aload_n 0, 1) := by decide +kernel
theorem dX0_init_5 : decode cX0_init 5 = .ok (.iconst 4, 1) := by decide +kernel
theorem dX0_init_6 : decode cX0_init 6 = .ok (.bipush 12, 2) := by decide +kernel
theorem dX0_init_8 : decode cX0_init 8 = .ok (.multianewarray 9 2, 4) := by decide +kernel
theorem dX0_init_12 : decode cX0_init 12 = .ok (.putfield 11, 3) := by decide +kernel
theorem dX0_init_15 : decode cX0_init 15 = .ok (.aload_n 0, 1) := by decide +kernel
theorem dX0_init_16 : decode cX0_init 16 = .ok (.iconst 4, 1) := by decide +kernel
theorem dX0_init_17 : decode cX0_init 17 = .ok (.bipush 12, 2) := by decide +kernel
theorem dX0_init_19 : decode cX0_init 19 = .ok (.multianewarray 9 2, 4) := by decide +kernel
theorem dX0_init_23 : decode cX0_init 23 = .ok (.putfield 16, 3) := by decide +kernel
theorem dX0_init_26 : decode cX0_init 26 = .ok (.aload_n 0, 1) := by decide +kernel
theorem dX0_init_27 : decode cX0_init 27 = .ok (.iconst 4, 1) := by decide +kernel
theorem dX0_init_28 : decode cX0_init 28 = .ok (.newarray .int, 2) := by decide +kernel
theorem dX0_init_30 : decode cX0_init 30 = .ok (.putfield 19, 3) := by decide +kernel
theorem dX0_init_33 : decode cX0_init 33 = .ok (.aload_n 0, 1) := by decide +kernel
theorem dX0_init_34 : decode cX0_init 34 = .ok (.iconst 4, 1) := by decide +kernel
theorem dX0_init_35 : decode cX0_init 35 = .ok (.newarray .int, 2) := by decide +kernel
theorem dX0_init_37 : decode cX0_init 37 = .ok (.putfield 23, 3) := by decide +kernel
theorem dX0_init_40 : decode cX0_init 40 = .ok (.aload_n 0, 1) := by decide +kernel
theorem dX0_init_41 : decode cX0_init 41 = .ok (.iconst 4, 1) := by decide +kernel
theorem dX0_init_42 : decode cX0_init 42 = .ok (.newarray .int, 2) := by decide +kernel
theorem dX0_init_44 : decode cX0_init 44 = .ok (.putfield 26, 3) := by decide +kernel
theorem dX0_init_47 : decode cX0_init 47 = .ok (.aload_n 0, 1) := by decide +kernel
theorem dX0_init_48 : decode cX0_init 48 = .ok (.iconst 4, 1) := by decide +kernel
theorem dX0_init_49 : decode cX0_init 49 = .ok (.sipush 144, 3) := by decide +kernel
theorem dX0_init_52 : decode cX0_init 52 = .ok (.multianewarray 9 2, 4) := by decide +kernel
theorem dX0_init_56 : decode cX0_init 56 = .ok (.putfield 29, 3) := by decide +kernel
theorem dX0_init_59 : decode cX0_init 59 = .ok (.aload_n 0, 1) := by decide +kernel
theorem dX0_init_60 : decode cX0_init 60 = .ok (.iconst 4, 1) := by decide +kernel
theorem dX0_init_61 : decode cX0_init 61 = .ok (.bipush 9, 2) := by decide +kernel
theorem dX0_init_63 : decode cX0_init 63 = .ok (.multianewarray 9 2, 4) := by decide +kernel
theorem dX0_init_67 : decode cX0_init 67 = .ok (.putfield 32, 3) := by decide +kernel
theorem dX0_init_70 : decode cX0_init 70 = .ok (.aload_n 0, 1) := by decide +kernel
theorem dX0_init_71 : decode cX0_init 71 = .ok (.sipush 1024, 3) := by decide +kernel
theorem dX0_init_74 : decode cX0_init 74 = .ok (.newarray .int, 2) := by decide +kernel
theorem dX0_init_76 : decode cX0_init 76 = .ok (.putfield 35, 3) := by decide +kernel
theorem dX0_init_79 : decode cX0_init 79 = .ok (.aload_n 0, 1) := by decide +kernel
theorem dX0_init_80 : decode cX0_init 80 = .ok (.sipush 4096, 3) := by decide +kernel
theorem dX0_init_83 : decode cX0_init 83 = .ok (.newarray .int, 2) := by decide +kernel
theorem dX0_init_85 : decode cX0_init 85 = .ok (.putfield 38, 3) := by decide +kernel
theorem dX0_init_88 : decode cX0_init 88 = .ok (.aload_n 0, 1) := by decide +kernel
theorem dX0_init_89 : decode cX0_init 89 = .ok (.iconst (-1), 1) := by decide +kernel
theorem dX0_init_90 : decode cX0_init 90 = .ok (.putfield 41, 3) := by decide +kernel
theorem dX0_init_93 : decode cX0_init 93 = .ok (.aload_n 0, 1) := by decide +kernel
theorem dX0_init_94 : decode cX0_init 94 = .ok (.bipush 13, 2) := by decide +kernel
theorem dX0_init_96 : decode cX0_init 96 = .ok (.newarray .int, 2) := by decide +kernel
theorem dX0_init_98 : decode cX0_init 98 = .ok (.putfield 45, 3) := by decide +kernel
theorem dX0_init_101 : decode cX0_init 101 = .ok (.aload_n 0, 1) := by decide +kernel
theorem dX0_init_102 : decode cX0_init 102 = .ok (.iconst 1, 1) := by decide +kernel
theorem dX0_init_103 : decode cX0_init 103 = .ok (.putfield 48, 3) := by decide +kernel
theorem dX0_init_106 : decode cX0_init 106 = .ok (.aload_n 0, 1) := by decide +kernel
theorem dX0_init_107 : decode cX0_init 107 = .ok (.aload_n 1, 1) := by decide +kernel
theorem dX0_init_108 : decode cX0_init 108 = .ok (.putfield 52, 3) := by decide +kernel
theorem dX0_init_111 : decode cX0_init 111 = .ok (.aload_n 0, 1) := by decide +kernel
theorem dX0_init_112 : decode cX0_init 112 = .ok (.aload_n 2, 1) := by decide +kernel
theorem dX0_init_113 : decode cX0_init 113 = .ok (.putfield 56, 3) := by decide +kernel
theorem dX0_init_116 : decode cX0_init 116 = .ok (.aload_n 0, 1) := by decide +kernel
theorem dX0_init_117 : decode cX0_init 117 = .ok (.aload_n 3, 1) := by decide +kernel
theorem dX0_init_118 : decode cX0_init 118 = .ok (.putfield 59, 3) := by decide +kernel
theorem dX0_init_121 : decode cX0_init 121 = .ok (.return_, 1) := by decide +kernel
theorem dX0_settled_0 : decode cX0_settled 0 = .ok (.aload_n 0, 1) := by decide +kernel
theorem dX0_settled_1 : decode cX0_settled 1 = .ok (.getfield 48, 3) := by decide +kernel
theorem dX0_settled_4 : decode cX0_settled 4 = .ok (.ifCond .ne 5, 3) := by decide +kernel
theorem dX0_settled_7 : decode cX0_settled 7 = .ok (.aload_n 0, 1) := by decide +kernel
theorem dX0_settled_8 : decode cX0_settled 8 = .ok (.areturn, 1) := by decide +kernel
theorem dX0_settled_9 : decode cX0_settled 9 = .ok (.aload_n 0, 1) := by decide +kernel
theorem dX0_settled_10 : decode cX0_settled 10 = .ok (.iconst 0, 1) := by decide +kernel
theorem dX0_settled_11 : decode cX0_settled 11 = .ok (.putfield 48, 3) := by decide +kernel
theorem dX0_settled_14 : decode cX0_settled 14 = .ok (.aload_n 0, 1) := by decide +kernel
theorem dX0_settled_15 : decode cX0_settled 15 = .ok (.iconst (-1), 1) := by decide +kernel
theorem dX0_settled_16 : decode cX0_settled 16 = .ok (.putfield 41, 3) := by decide +kernel
theorem dX0_settled_19 : decode cX0_settled 19 = .ok (.aload_n 0, 1) := by decide +kernel
theorem dX0_settled_20 : decode cX0_settled 20 = .ok (.invokevirtual 63, 3) := by decide +kernel
theorem dX0_settled_23 : decode cX0_settled 23 = .ok (.aload_n 0, 1) := by decide +kernel
theorem dX0_settled_24 : decode cX0_settled 24 = .ok (.invokevirtual 66, 3) := by decide +kernel
theorem dX0_settled_27 : decode cX0_settled 27 = .ok (.iconst 0, 1) := by decide +kernel
theorem dX0_settled_28 : decode cX0_settled 28 = .ok (.istore_n 1, 1) := by decide +kernel
theorem dX0_settled_29 : decode cX0_settled 29 = .ok (.iload_n 1, 1) := by decide +kernel
theorem dX0_settled_30 : decode cX0_settled 30 = .ok (.iconst 4, 1) := by decide +kernel
theorem dX0_settled_31 : decode cX0_settled 31 = .ok (.if_icmp .ge 36, 3) := by decide +kernel
theorem dX0_settled_34 : decode cX0_settled 34 = .ok (.aload_n 0, 1) := by decide +kernel
theorem dX0_settled_35 : decode cX0_settled 35 = .ok (.iload_n 1, 1) := by decide +kernel
theorem dX0_settled_36 : decode cX0_settled 36 = .ok (.invokevirtual 69, 3) := by decide +kernel
theorem dX0_settled_39 : decode cX0_settled 39 = .ok (.aload_n 0, 1) := by decide +kernel
theorem dX0_settled_40 : decode cX0_settled 40 = .ok (.iload_n 1, 1) := by decide +kernel
theorem dX0_settled_41 : decode cX0_settled 41 = .ok (.invokevirtual 73, 3) := by decide +kernel
theorem dX0_settled_44 : decode cX0_settled 44 = .ok (.aload_n 0, 1) := by decide +kernel
theorem dX0_settled_45 : decode cX0_settled 45 = .ok (.getfield 26, 3) := by decide +kernel
theorem dX0_settled_48 : decode cX0_settled 48 = .ok (.iload_n 1, 1) := by decide +kernel
theorem dX0_settled_49 : decode cX0_settled 49 = .ok (.aload_n 0, 1) := by decide +kernel
theorem dX0_settled_50 : decode cX0_settled 50 = .ok (.getfield 35, 3) := by decide +kernel
theorem dX0_settled_53 : decode cX0_settled 53 = .ok (.aload_n 0, 1) := by decide +kernel
theorem dX0_settled_54 : decode cX0_settled 54 = .ok (.getfield 23, 3) := by decide +kernel
theorem dX0_settled_57 : decode cX0_settled 57 = .ok (.iload_n 1, 1) := by decide +kernel
theorem dX0_settled_58 : decode cX0_settled 58 = .ok (.iaload, 1) := by decide +kernel
theorem dX0_settled_59 : decode cX0_settled 59 = .ok (.iaload, 1) := by decide +kernel
theorem dX0_settled_60 : decode cX0_settled 60 = .ok (.iastore, 1) := by decide +kernel
theorem dX0_settled_61 : decode cX0_settled 61 = .ok (.iinc 1 1, 3) := by decide +kernel
theorem dX0_settled_64 : decode cX0_settled 64 = .ok (.goto (-35), 3) := by decide +kernel
theorem dX0_settled_67 : decode cX0_settled 67 = .ok (.aload_n 0, 1) := by decide +kernel
theorem dX0_settled_68 : decode cX0_settled 68 = .ok (.areturn, 1) := by decide +kernel
theorem dX0_sortRules_0 : decode cX0_sortRules 0 = .ok (.iconst 0, 1) := by decide +kernel
theorem dX0_sortRules_1 : decode cX0_sortRules 1 = .ok (.istore_n 1, 1) := by decide +kernel
theorem dX0_sortRules_2 : decode cX0_sortRules 2 = .ok (.iload_n 1, 1) := by decide +kernel
theorem dX0_sortRules_3 : decode cX0_sortRules 3 = .ok (.iconst 4, 1) := by decide +kernel
theorem dX0_sortRules_4 : decode cX0_sortRules 4 = .ok (.if_icmp .ge 32, 3) := by decide +kernel
theorem dX0_sortRules_7 : decode cX0_sortRules 7 = .ok (.iconst 0, 1) := by decide +kernel
theorem dX0_sortRules_8 : decode cX0_sortRules 8 = .ok (.istore_n 2, 1) := by decide +kernel
theorem dX0_sortRules_9 : decode cX0_sortRules 9 = .ok (.iload_n 2, 1) := by decide +kernel
theorem dX0_sortRules_10 : decode cX0_sortRules 10 = .ok (.bipush 9, 2) := by decide +kernel
theorem dX0_sortRules_12 : decode cX0_sortRules 12 = .ok (.if_icmp .ge 18, 3) := by decide +kernel
theorem dX0_sortRules_15 : decode cX0_sortRules 15 = .ok (.aload_n 0, 1) := by decide +kernel
theorem dX0_sortRules_16 : decode cX0_sortRules 16 = .ok (.getfield 32, 3) := by decide +kernel
theorem dX0_sortRules_19 : decode cX0_sortRules 19 = .ok (.iload_n 1, 1) := by decide +kernel
theorem dX0_sortRules_20 : decode cX0_sortRules 20 = .ok (.aaload, 1) := by decide +kernel
theorem dX0_sortRules_21 : decode cX0_sortRules 21 = .ok (.iload_n 2, 1) := by decide +kernel
theorem dX0_sortRules_22 : decode cX0_sortRules 22 = .ok (.iconst 0, 1) := by decide +kernel
theorem dX0_sortRules_23 : decode cX0_sortRules 23 = .ok (.iastore, 1) := by decide +kernel
theorem dX0_sortRules_24 : decode cX0_sortRules 24 = .ok (.iinc 2 1, 3) := by decide +kernel
theorem dX0_sortRules_27 : decode cX0_sortRules 27 = .ok (.goto (-18), 3) := by decide +kernel
theorem dX0_sortRules_30 : decode cX0_sortRules 30 = .ok (.iinc 1 1, 3) := by decide +kernel
theorem dX0_sortRules_33 : decode cX0_sortRules 33 = .ok (.goto (-31), 3) := by decide +kernel
theorem dX0_sortRules_36 : decode cX0_sortRules 36 = .ok (.iconst 0, 1) := by decide +kernel
theorem dX0_sortRules_37 : decode cX0_sortRules 37 = .ok (.istore_n 1, 1) := by decide +kernel
theorem dX0_sortRules_38 : decode cX0_sortRules 38 = .ok (.iload_n 1, 1) := by decide +kernel
theorem dX0_sortRules_39 : decode cX0_sortRules 39 = .ok (.aload_n 0, 1) := by decide +kernel
theorem dX0_sortRules_40 : decode cX0_sortRules 40 = .ok (.getfield 56, 3) := by decide +kernel
theorem dX0_sortRules_43 : decode cX0_sortRules 43 = .ok (.getfield 76, 3) := by decide +kernel
theorem dX0_sortRules_46 : decode cX0_sortRules 46 = .ok (.if_icmp .ge 53, 3) := by decide +kernel
theorem dX0_sortRules_49 : decode cX0_sortRules 49 = .ok (.iconst 3, 1) := by decide +kernel
theorem dX0_sortRules_50 : decode cX0_sortRules 50 = .ok (.aload_n 0, 1) := by decide +kernel
theorem dX0_sortRules_51 : decode cX0_sortRules 51 = .ok (.getfield 56, 3) := by decide +kernel
theorem dX0_sortRules_54 : decode cX0_sortRules 54 = .ok (.iload_n 1, 1) := by decide +kernel
theorem dX0_sortRules_55 : decode cX0_sortRules 55 = .ok (.iconst 0, 1) := by decide +kernel
theorem dX0_sortRules_56 : decode cX0_sortRules 56 = .ok (.invokevirtual 81, 3) := by decide +kernel
theorem dX0_sortRules_59 : decode cX0_sortRules 59 = .ok (.imul, 1) := by decide +kernel
theorem dX0_sortRules_60 : decode cX0_sortRules 60 = .ok (.aload_n 0, 1) := by decide +kernel
theorem dX0_sortRules_61 : decode cX0_sortRules 61 = .ok (.getfield 56, 3) := by decide +kernel
theorem dX0_sortRules_64 : decode cX0_sortRules 64 = .ok (.iload_n 1, 1) := by decide +kernel
theorem dX0_sortRules_65 : decode cX0_sortRules 65 = .ok (.iconst 2, 1) := by decide +kernel
theorem dX0_sortRules_66 : decode cX0_sortRules 66 = .ok (.invokevirtual 81, 3) := by decide +kernel
theorem dX0_sortRules_69 : decode cX0_sortRules 69 = .ok (.iadd, 1) := by decide +kernel
theorem dX0_sortRules_70 : decode cX0_sortRules 70 = .ok (.istore_n 2, 1) := by decide +kernel
theorem dX0_sortRules_71 : decode cX0_sortRules 71 = .ok (.aload_n 0, 1) := by decide +kernel
theorem dX0_sortRules_72 : decode cX0_sortRules 72 = .ok (.getfield 32, 3) := by decide +kernel
theorem dX0_sortRules_75 : decode cX0_sortRules 75 = .ok (.aload_n 0, 1) := by decide +kernel
theorem dX0_sortRules_76 : decode cX0_sortRules 76 = .ok (.getfield 56, 3) := by decide +kernel
theorem dX0_sortRules_79 : decode cX0_sortRules 79 = .ok (.iload_n 1, 1) := by decide +kernel
theorem dX0_sortRules_80 : decode cX0_sortRules 80 = .ok (.iconst 1, 1) := by decide +kernel
theorem dX0_sortRules_81 : decode cX0_sortRules 81 = .ok (.invokevirtual 81, 3) := by decide +kernel
theorem dX0_sortRules_84 : decode cX0_sortRules 84 = .ok (.aaload, 1) := by decide +kernel
theorem dX0_sortRules_85 : decode cX0_sortRules 85 = .ok (.iload_n 2, 1) := by decide +kernel
theorem dX0_sortRules_86 : decode cX0_sortRules 86 = .ok (.dup2, 1) := by decide +kernel
theorem dX0_sortRules_87 : decode cX0_sortRules 87 = .ok (.iaload, 1) := by decide +kernel
theorem dX0_sortRules_88 : decode cX0_sortRules 88 = .ok (.iconst 1, 1) := by decide +kernel
theorem dX0_sortRules_89 : decode cX0_sortRules 89 = .ok (.iload_n 1, 1) := by decide +kernel
theorem dX0_sortRules_90 : decode cX0_sortRules 90 = .ok (.ishl, 1) := by decide +kernel
theorem dX0_sortRules_91 : decode cX0_sortRules 91 = .ok (.ior, 1) := by decide +kernel
theorem dX0_sortRules_92 : decode cX0_sortRules 92 = .ok (.iastore, 1) := by decide +kernel
theorem dX0_sortRules_93 : decode cX0_sortRules 93 = .ok (.iinc 1 1, 3) := by decide +kernel
theorem dX0_sortRules_96 : decode cX0_sortRules 96 = .ok (.goto (-58), 3) := by decide +kernel
theorem dX0_sortRules_99 : decode cX0_sortRules 99 = .ok (.return_, 1) := by decide +kernel
theorem dX0_readRules_0 : decode cX0_readRules 0 = .ok (.aload_n 0, 1) := by decide +kernel
theorem dX0_readRules_1 : decode cX0_readRules 1 = .ok (.getfield 35, 3) := by decide +kernel
theorem dX0_readRules_4 : decode cX0_readRules 4 = .ok (.iconst 0, 1) := by decide +kernel
theorem dX0_readRules_5 : decode cX0_readRules 5 = .ok (.iconst 0, 1) := by decide +kernel
theorem dX0_readRules_6 : decode cX0_readRules 6 = .ok (.iastore, 1) := by decide +kernel
theorem dX0_readRules_7 : decode cX0_readRules 7 = .ok (.iconst 0, 1) := by decide +kernel
theorem dX0_readRules_8 : decode cX0_readRules 8 = .ok (.istore_n 1, 1) := by decide +kernel
theorem dX0_readRules_9 : decode cX0_readRules 9 = .ok (.iload_n 1, 1) := by decide +kernel
theorem dX0_readRules_10 : decode cX0_readRules 10 = .ok (.aload_n 0, 1) := by decide +kernel
theorem dX0_readRules_11 : decode cX0_readRules 11 = .ok (.getfield 56, 3) := by decide +kernel
theorem dX0_readRules_14 : decode cX0_readRules 14 = .ok (.getfield 76, 3) := by decide +kernel
theorem dX0_readRules_17 : decode cX0_readRules 17 = .ok (.if_icmp .ge 96, 3) := by decide +kernel
theorem dX0_readRules_20 : decode cX0_readRules 20 = .ok (.iconst 1, 1) := by decide +kernel
theorem dX0_readRules_21 : decode cX0_readRules 21 = .ok (.iload_n 1, 1) := by decide +kernel
theorem dX0_readRules_22 : decode cX0_readRules 22 = .ok (.ishl, 1) := by decide +kernel
theorem dX0_readRules_23 : decode cX0_readRules 23 = .ok (.istore_n 2, 1) := by decide +kernel
theorem dX0_readRules_24 : decode cX0_readRules 24 = .ok (.iconst 1, 1) := by decide +kernel
theorem dX0_readRules_25 : decode cX0_readRules 25 = .ok (.aload_n 0, 1) := by decide +kernel
theorem dX0_readRules_26 : decode cX0_readRules 26 = .ok (.getfield 56, 3) := by decide +kernel
theorem dX0_readRules_29 : decode cX0_readRules 29 = .ok (.iload_n 1, 1) := by decide +kernel
theorem dX0_readRules_30 : decode cX0_readRules 30 = .ok (.iconst 4, 1) := by decide +kernel
theorem dX0_readRules_31 : decode cX0_readRules 31 = .ok (.invokevirtual 81, 3) := by decide +kernel
theorem dX0_readRules_34 : decode cX0_readRules 34 = .ok (.ishl, 1) := by decide +kernel
theorem dX0_readRules_35 : decode cX0_readRules 35 = .ok (.istore_n 3, 1) := by decide +kernel
theorem dX0_readRules_36 : decode cX0_readRules 36 = .ok (.aload_n 0, 1) := by decide +kernel
theorem dX0_readRules_37 : decode cX0_readRules 37 = .ok (.getfield 56, 3) := by decide +kernel
theorem dX0_readRules_40 : decode cX0_readRules 40 = .ok (.iload_n 1, 1) := by decide +kernel
theorem dX0_readRules_41 : decode cX0_readRules 41 = .ok (.iconst 3, 1) := by decide +kernel
theorem dX0_readRules_42 : decode cX0_readRules 42 = .ok (.invokevirtual 81, 3) := by decide +kernel
theorem dX0_readRules_45 : decode cX0_readRules 45 = .ok (.iconst 1, 1) := by decide +kernel
theorem dX0_readRules_46 : decode cX0_readRules 46 = .ok (.if_icmp .ne 7, 3) := by decide +kernel
theorem dX0_readRules_49 : decode cX0_readRules 49 = .ok (.iconst 1, 1) := by decide +kernel
theorem dX0_readRules_50 : decode cX0_readRules 50 = .ok (.goto 4, 3) := by decide +kernel
theorem dX0_readRules_53 : decode cX0_readRules 53 = .ok (.iconst 0, 1) := by decide +kernel
theorem dX0_readRules_54 : decode cX0_readRules 54 = .ok (.istore 4, 2) := by decide +kernel
theorem dX0_readRules_56 : decode cX0_readRules 56 = .ok (.iconst 0, 1) := by decide +kernel
theorem dX0_readRules_57 : decode cX0_readRules 57 = .ok (.istore 5, 2) := by decide +kernel
theorem dX0_readRules_59 : decode cX0_readRules 59 = .ok (.iload 5, 2) := by decide +kernel
theorem dX0_readRules_61 : decode cX0_readRules 61 = .ok (.iload_n 2, 1) := by decide +kernel
theorem dX0_readRules_62 : decode cX0_readRules 62 = .ok (.if_icmp .ge 45, 3) := by decide +kernel
theorem dX0_readRules_65 : decode cX0_readRules 65 = .ok (.aload_n 0, 1) := by decide +kernel
theorem dX0_readRules_66 : decode cX0_readRules 66 = .ok (.getfield 35, 3) := by decide +kernel
theorem dX0_readRules_69 : decode cX0_readRules 69 = .ok (.iload 5, 2) := by decide +kernel
theorem dX0_readRules_71 : decode cX0_readRules 71 = .ok (.iaload, 1) := by decide +kernel
theorem dX0_readRules_72 : decode cX0_readRules 72 = .ok (.istore 6, 2) := by decide +kernel
theorem dX0_readRules_74 : decode cX0_readRules 74 = .ok (.aload_n 0, 1) := by decide +kernel
theorem dX0_readRules_75 : decode cX0_readRules 75 = .ok (.getfield 35, 3) := by decide +kernel
theorem dX0_readRules_78 : decode cX0_readRules 78 = .ok (.iload_n 2, 1) := by decide +kernel
theorem dX0_readRules_79 : decode cX0_readRules 79 = .ok (.iload 5, 2) := by decide +kernel
theorem dX0_readRules_81 : decode cX0_readRules 81 = .ok (.ior, 1) := by decide +kernel
theorem dX0_readRules_82 : decode cX0_readRules 82 = .ok (.iload 4, 2) := by decide +kernel
theorem dX0_readRules_84 : decode cX0_readRules 84 = .ok (.ifCond .eq 10, 3) := by decide +kernel
theorem dX0_readRules_87 : decode cX0_readRules 87 = .ok (.iload 6, 2) := by decide +kernel
theorem dX0_readRules_89 : decode cX0_readRules 89 = .ok (.iload_n 3, 1) := by decide +kernel
theorem dX0_readRules_90 : decode cX0_readRules 90 = .ok (.ior, 1) := by decide +kernel
theorem dX0_readRules_91 : decode cX0_readRules 91 = .ok (.goto 9, 3) := by decide +kernel
theorem dX0_readRules_94 : decode cX0_readRules 94 = .ok (.iload 6, 2) := by decide +kernel
theorem dX0_readRules_96 : decode cX0_readRules 96 = .ok (.iload_n 3, 1) := by decide +kernel
theorem dX0_readRules_97 : decode cX0_readRules 97 = .ok (.iconst (-1), 1) := by decide +kernel
theorem dX0_readRules_98 : decode cX0_readRules 98 = .ok (.ixor, 1) := by decide +kernel
theorem dX0_readRules_99 : decode cX0_readRules 99 = .ok (.iand, 1) := by decide +kernel
theorem dX0_readRules_100 : decode cX0_readRules 100 = .ok (.iastore, 1) := by decide +kernel
theorem dX0_readRules_101 : decode cX0_readRules 101 = .ok (.iinc 5 1, 3) := by decide +kernel
theorem dX0_readRules_104 : decode cX0_readRules 104 = .ok (.goto (-45), 3) := by decide +kernel
theorem dX0_readRules_107 : decode cX0_readRules 107 = .ok (.iinc 1 1, 3) := by decide +kernel
theorem dX0_readRules_110 : decode cX0_readRules 110 = .ok (.goto (-101), 3) := by decide +kernel
theorem dX0_readRules_113 : decode cX0_readRules 113 = .ok (.return_, 1) := by decide +kernel
theorem dX0_layLeaves_0 : decode cX0_layLeaves 0 = .ok (.aload_n 0, 1) := by decide +kernel
theorem dX0_layLeaves_1 : decode cX0_layLeaves 1 = .ok (.getfield 19, 3) := by decide +kernel
theorem dX0_layLeaves_4 : decode cX0_layLeaves 4 = .ok (.iload_n 1, 1) := by decide +kernel
theorem dX0_layLeaves_5 : decode cX0_layLeaves 5 = .ok (.iconst 0, 1) := by decide +kernel
theorem dX0_layLeaves_6 : decode cX0_layLeaves 6 = .ok (.iastore, 1) := by decide +kernel
theorem dX0_layLeaves_7 : decode cX0_layLeaves 7 = .ok (.iconst 0, 1) := by decide +kernel
theorem dX0_layLeaves_8 : decode cX0_layLeaves 8 = .ok (.istore_n 2, 1) := by decide +kernel
theorem dX0_layLeaves_9 : decode cX0_layLeaves 9 = .ok (.iload_n 2, 1) := by decide +kernel
theorem dX0_layLeaves_10 : decode cX0_layLeaves 10 = .ok (.aload_n 0, 1) := by decide +kernel
theorem dX0_layLeaves_11 : decode cX0_layLeaves 11 = .ok (.getfield 52, 3) := by decide +kernel
theorem dX0_layLeaves_14 : decode cX0_layLeaves 14 = .ok (.getfield 76, 3) := by decide +kernel
theorem dX0_layLeaves_17 : decode cX0_layLeaves 17 = .ok (.if_icmp .ge 98, 3) := by decide +kernel
theorem dX0_layLeaves_20 : decode cX0_layLeaves 20 = .ok (.aload_n 0, 1) := by decide +kernel
theorem dX0_layLeaves_21 : decode cX0_layLeaves 21 = .ok (.getfield 52, 3) := by decide +kernel
theorem dX0_layLeaves_24 : decode cX0_layLeaves 24 = .ok (.iload_n 2, 1) := by decide +kernel
theorem dX0_layLeaves_25 : decode cX0_layLeaves 25 = .ok (.iconst 0, 1) := by decide +kernel
theorem dX0_layLeaves_26 : decode cX0_layLeaves 26 = .ok (.invokevirtual 81, 3) := by decide +kernel
theorem dX0_layLeaves_29 : decode cX0_layLeaves 29 = .ok (.istore_n 3, 1) := by decide +kernel
theorem dX0_layLeaves_30 : decode cX0_layLeaves 30 = .ok (.aload_n 0, 1) := by decide +kernel
theorem dX0_layLeaves_31 : decode cX0_layLeaves 31 = .ok (.getfield 52, 3) := by decide +kernel
theorem dX0_layLeaves_34 : decode cX0_layLeaves 34 = .ok (.iload_n 2, 1) := by decide +kernel
theorem dX0_layLeaves_35 : decode cX0_layLeaves 35 = .ok (.iconst 1, 1) := by decide +kernel
theorem dX0_layLeaves_36 : decode cX0_layLeaves 36 = .ok (.invokevirtual 81, 3) := by decide +kernel
theorem dX0_layLeaves_39 : decode cX0_layLeaves 39 = .ok (.istore 4, 2) := by decide +kernel
theorem dX0_layLeaves_41 : decode cX0_layLeaves 41 = .ok (.iconst 0, 1) := by decide +kernel
theorem dX0_layLeaves_42 : decode cX0_layLeaves 42 = .ok (.istore 5, 2) := by decide +kernel
theorem dX0_layLeaves_44 : decode cX0_layLeaves 44 = .ok (.iload 5, 2) := by decide +kernel
theorem dX0_layLeaves_46 : decode cX0_layLeaves 46 = .ok (.iload_n 1, 1) := by decide +kernel
theorem dX0_layLeaves_47 : decode cX0_layLeaves 47 = .ok (.if_icmp .ge 21, 3) := by decide +kernel
theorem dX0_layLeaves_50 : decode cX0_layLeaves 50 = .ok (.iload_n 3, 1) := by decide +kernel
theorem dX0_layLeaves_51 : decode cX0_layLeaves 51 = .ok (.istore 6, 2) := by decide +kernel
theorem dX0_layLeaves_53 : decode cX0_layLeaves 53 = .ok (.iconst 5, 1) := by decide +kernel
theorem dX0_layLeaves_54 : decode cX0_layLeaves 54 = .ok (.iload 4, 2) := by decide +kernel
theorem dX0_layLeaves_56 : decode cX0_layLeaves 56 = .ok (.isub, 1) := by decide +kernel
theorem dX0_layLeaves_57 : decode cX0_layLeaves 57 = .ok (.istore_n 3, 1) := by decide +kernel
theorem dX0_layLeaves_58 : decode cX0_layLeaves 58 = .ok (.iload 6, 2) := by decide +kernel
theorem dX0_layLeaves_60 : decode cX0_layLeaves 60 = .ok (.istore 4, 2) := by decide +kernel
theorem dX0_layLeaves_62 : decode cX0_layLeaves 62 = .ok (.iinc 5 1, 3) := by decide +kernel
theorem dX0_layLeaves_65 : decode cX0_layLeaves 65 = .ok (.goto (-21), 3) := by decide +kernel
theorem dX0_layLeaves_68 : decode cX0_layLeaves 68 = .ok (.aload_n 0, 1) := by decide +kernel
theorem dX0_layLeaves_69 : decode cX0_layLeaves 69 = .ok (.getfield 11, 3) := by decide +kernel
theorem dX0_layLeaves_72 : decode cX0_layLeaves 72 = .ok (.iload_n 1, 1) := by decide +kernel
theorem dX0_layLeaves_73 : decode cX0_layLeaves 73 = .ok (.aaload, 1) := by decide +kernel
theorem dX0_layLeaves_74 : decode cX0_layLeaves 74 = .ok (.iload_n 2, 1) := by decide +kernel
theorem dX0_layLeaves_75 : decode cX0_layLeaves 75 = .ok (.iload_n 3, 1) := by decide +kernel
theorem dX0_layLeaves_76 : decode cX0_layLeaves 76 = .ok (.iastore, 1) := by decide +kernel
theorem dX0_layLeaves_77 : decode cX0_layLeaves 77 = .ok (.aload_n 0, 1) := by decide +kernel
theorem dX0_layLeaves_78 : decode cX0_layLeaves 78 = .ok (.getfield 16, 3) := by decide +kernel
theorem dX0_layLeaves_81 : decode cX0_layLeaves 81 = .ok (.iload_n 1, 1) := by decide +kernel
theorem dX0_layLeaves_82 : decode cX0_layLeaves 82 = .ok (.aaload, 1) := by decide +kernel
theorem dX0_layLeaves_83 : decode cX0_layLeaves 83 = .ok (.iload_n 2, 1) := by decide +kernel
theorem dX0_layLeaves_84 : decode cX0_layLeaves 84 = .ok (.iload 4, 2) := by decide +kernel
theorem dX0_layLeaves_86 : decode cX0_layLeaves 86 = .ok (.iastore, 1) := by decide +kernel
theorem dX0_layLeaves_87 : decode cX0_layLeaves 87 = .ok (.aload_n 0, 1) := by decide +kernel
theorem dX0_layLeaves_88 : decode cX0_layLeaves 88 = .ok (.iload_n 3, 1) := by decide +kernel
theorem dX0_layLeaves_89 : decode cX0_layLeaves 89 = .ok (.iload 4, 2) := by decide +kernel
theorem dX0_layLeaves_91 : decode cX0_layLeaves 91 = .ok (.invokevirtual 85, 3) := by decide +kernel
theorem dX0_layLeaves_94 : decode cX0_layLeaves 94 = .ok (.ifCond .ne 15, 3) := by decide +kernel
theorem dX0_layLeaves_97 : decode cX0_layLeaves 97 = .ok (.aload_n 0, 1) := by decide +kernel
theorem dX0_layLeaves_98 : decode cX0_layLeaves 98 = .ok (.getfield 19, 3) := by decide +kernel
theorem dX0_layLeaves_101 : decode cX0_layLeaves 101 = .ok (.iload_n 1, 1) := by decide +kernel
theorem dX0_layLeaves_102 : decode cX0_layLeaves 102 = .ok (.dup2, 1) := by decide +kernel
theorem dX0_layLeaves_103 : decode cX0_layLeaves 103 = .ok (.iaload, 1) := by decide +kernel
theorem dX0_layLeaves_104 : decode cX0_layLeaves 104 = .ok (.iconst 1, 1) := by decide +kernel
theorem dX0_layLeaves_105 : decode cX0_layLeaves 105 = .ok (.iload_n 2, 1) := by decide +kernel
theorem dX0_layLeaves_106 : decode cX0_layLeaves 106 = .ok (.ishl, 1) := by decide +kernel
theorem dX0_layLeaves_107 : decode cX0_layLeaves 107 = .ok (.ior, 1) := by decide +kernel
theorem dX0_layLeaves_108 : decode cX0_layLeaves 108 = .ok (.iastore, 1) := by decide +kernel
theorem dX0_layLeaves_109 : decode cX0_layLeaves 109 = .ok (.iinc 2 1, 3) := by decide +kernel
theorem dX0_layLeaves_112 : decode cX0_layLeaves 112 = .ok (.goto (-103), 3) := by decide +kernel
theorem dX0_layLeaves_115 : decode cX0_layLeaves 115 = .ok (.return_, 1) := by decide +kernel
theorem dX0_isCracked_0 : decode cX0_isCracked 0 = .ok (.iconst 0, 1) := by decide +kernel
theorem dX0_isCracked_1 : decode cX0_isCracked 1 = .ok (.istore_n 3, 1) := by decide +kernel
theorem dX0_isCracked_2 : decode cX0_isCracked 2 = .ok (.iload_n 3, 1) := by decide +kernel
theorem dX0_isCracked_3 : decode cX0_isCracked 3 = .ok (.aload_n 0, 1) := by decide +kernel
theorem dX0_isCracked_4 : decode cX0_isCracked 4 = .ok (.getfield 59, 3) := by decide +kernel
theorem dX0_isCracked_7 : decode cX0_isCracked 7 = .ok (.getfield 89, 3) := by decide +kernel
theorem dX0_isCracked_10 : decode cX0_isCracked 10 = .ok (.if_icmp .ge 37, 3) := by decide +kernel
theorem dX0_isCracked_13 : decode cX0_isCracked 13 = .ok (.aload_n 0, 1) := by decide +kernel
theorem dX0_isCracked_14 : decode cX0_isCracked 14 = .ok (.getfield 59, 3) := by decide +kernel
theorem dX0_isCracked_17 : decode cX0_isCracked 17 = .ok (.getfield 94, 3) := by decide +kernel
theorem dX0_isCracked_20 : decode cX0_isCracked 20 = .ok (.iload_n 3, 1) := by decide +kernel
theorem dX0_isCracked_21 : decode cX0_isCracked 21 = .ok (.iaload, 1) := by decide +kernel
theorem dX0_isCracked_22 : decode cX0_isCracked 22 = .ok (.iload_n 1, 1) := by decide +kernel
theorem dX0_isCracked_23 : decode cX0_isCracked 23 = .ok (.if_icmp .ne 18, 3) := by decide +kernel
theorem dX0_isCracked_26 : decode cX0_isCracked 26 = .ok (.aload_n 0, 1) := by decide +kernel
theorem dX0_isCracked_27 : decode cX0_isCracked 27 = .ok (.getfield 59, 3) := by decide +kernel
theorem dX0_isCracked_30 : decode cX0_isCracked 30 = .ok (.getfield 97, 3) := by decide +kernel
theorem dX0_isCracked_33 : decode cX0_isCracked 33 = .ok (.iload_n 3, 1) := by decide +kernel
theorem dX0_isCracked_34 : decode cX0_isCracked 34 = .ok (.iaload, 1) := by decide +kernel
theorem dX0_isCracked_35 : decode cX0_isCracked 35 = .ok (.iload_n 2, 1) := by decide +kernel
theorem dX0_isCracked_36 : decode cX0_isCracked 36 = .ok (.if_icmp .ne 5, 3) := by decide +kernel
theorem dX0_isCracked_39 : decode cX0_isCracked 39 = .ok (.iconst 1, 1) := by decide +kernel
theorem dX0_isCracked_40 : decode cX0_isCracked 40 = .ok (.ireturn, 1) := by decide +kernel
theorem dX0_isCracked_41 : decode cX0_isCracked 41 = .ok (.iinc 3 1, 3) := by decide +kernel
theorem dX0_isCracked_44 : decode cX0_isCracked 44 = .ok (.goto (-42), 3) := by decide +kernel
theorem dX0_isCracked_47 : decode cX0_isCracked 47 = .ok (.iconst 0, 1) := by decide +kernel
theorem dX0_isCracked_48 : decode cX0_isCracked 48 = .ok (.ireturn, 1) := by decide +kernel
theorem dX0_counts_0 : decode cX0_counts 0 = .ok (.aload_n 0, 1) := by decide +kernel
theorem dX0_counts_1 : decode cX0_counts 1 = .ok (.getfield 19, 3) := by decide +kernel
theorem dX0_counts_4 : decode cX0_counts 4 = .ok (.iload_n 1, 1) := by decide +kernel
theorem dX0_counts_5 : decode cX0_counts 5 = .ok (.iaload, 1) := by decide +kernel
theorem dX0_counts_6 : decode cX0_counts 6 = .ok (.iload_n 2, 1) := by decide +kernel
theorem dX0_counts_7 : decode cX0_counts 7 = .ok (.ishr, 1) := by decide +kernel
theorem dX0_counts_8 : decode cX0_counts 8 = .ok (.iconst 1, 1) := by decide +kernel
theorem dX0_counts_9 : decode cX0_counts 9 = .ok (.iand, 1) := by decide +kernel
theorem dX0_counts_10 : decode cX0_counts 10 = .ok (.iconst 1, 1) := by decide +kernel
theorem dX0_counts_11 : decode cX0_counts 11 = .ok (.if_icmp .ne 7, 3) := by decide +kernel
theorem dX0_counts_14 : decode cX0_counts 14 = .ok (.iconst 1, 1) := by decide +kernel
theorem dX0_counts_15 : decode cX0_counts 15 = .ok (.goto 4, 3) := by decide +kernel
theorem dX0_counts_18 : decode cX0_counts 18 = .ok (.iconst 0, 1) := by decide +kernel
theorem dX0_counts_19 : decode cX0_counts 19 = .ok (.ireturn, 1) := by decide +kernel
theorem dX0_pairLeaves_0 : decode cX0_pairLeaves 0 = .ok (.aload_n 0, 1) := by decide +kernel
theorem dX0_pairLeaves_1 : decode cX0_pairLeaves 1 = .ok (.getfield 23, 3) := by decide +kernel
theorem dX0_pairLeaves_4 : decode cX0_pairLeaves 4 = .ok (.iload_n 1, 1) := by decide +kernel
theorem dX0_pairLeaves_5 : decode cX0_pairLeaves 5 = .ok (.iconst 0, 1) := by decide +kernel
theorem dX0_pairLeaves_6 : decode cX0_pairLeaves 6 = .ok (.iastore, 1) := by decide +kernel
theorem dX0_pairLeaves_7 : decode cX0_pairLeaves 7 = .ok (.iconst 0, 1) := by decide +kernel
theorem dX0_pairLeaves_8 : decode cX0_pairLeaves 8 = .ok (.istore_n 2, 1) := by decide +kernel
theorem dX0_pairLeaves_9 : decode cX0_pairLeaves 9 = .ok (.iload_n 2, 1) := by decide +kernel
theorem dX0_pairLeaves_10 : decode cX0_pairLeaves 10 = .ok (.aload_n 0, 1) := by decide +kernel
theorem dX0_pairLeaves_11 : decode cX0_pairLeaves 11 = .ok (.getfield 52, 3) := by decide +kernel
theorem dX0_pairLeaves_14 : decode cX0_pairLeaves 14 = .ok (.getfield 76, 3) := by decide +kernel
theorem dX0_pairLeaves_17 : decode cX0_pairLeaves 17 = .ok (.if_icmp .ge 116, 3) := by decide +kernel
theorem dX0_pairLeaves_20 : decode cX0_pairLeaves 20 = .ok (.aload_n 0, 1) := by decide +kernel
theorem dX0_pairLeaves_21 : decode cX0_pairLeaves 21 = .ok (.getfield 52, 3) := by decide +kernel
theorem dX0_pairLeaves_24 : decode cX0_pairLeaves 24 = .ok (.iload_n 2, 1) := by decide +kernel
theorem dX0_pairLeaves_25 : decode cX0_pairLeaves 25 = .ok (.iconst 2, 1) := by decide +kernel
theorem dX0_pairLeaves_26 : decode cX0_pairLeaves 26 = .ok (.invokevirtual 81, 3) := by decide +kernel
theorem dX0_pairLeaves_29 : decode cX0_pairLeaves 29 = .ok (.istore_n 3, 1) := by decide +kernel
theorem dX0_pairLeaves_30 : decode cX0_pairLeaves 30 = .ok (.aload_n 0, 1) := by decide +kernel
theorem dX0_pairLeaves_31 : decode cX0_pairLeaves 31 = .ok (.getfield 11, 3) := by decide +kernel
theorem dX0_pairLeaves_34 : decode cX0_pairLeaves 34 = .ok (.iload_n 1, 1) := by decide +kernel
theorem dX0_pairLeaves_35 : decode cX0_pairLeaves 35 = .ok (.aaload, 1) := by decide +kernel
theorem dX0_pairLeaves_36 : decode cX0_pairLeaves 36 = .ok (.iload_n 2, 1) := by decide +kernel
theorem dX0_pairLeaves_37 : decode cX0_pairLeaves 37 = .ok (.iaload, 1) := by decide +kernel
theorem dX0_pairLeaves_38 : decode cX0_pairLeaves 38 = .ok (.istore 4, 2) := by decide +kernel
theorem dX0_pairLeaves_40 : decode cX0_pairLeaves 40 = .ok (.aload_n 0, 1) := by decide +kernel
theorem dX0_pairLeaves_41 : decode cX0_pairLeaves 41 = .ok (.getfield 16, 3) := by decide +kernel
theorem dX0_pairLeaves_44 : decode cX0_pairLeaves 44 = .ok (.iload_n 1, 1) := by decide +kernel
theorem dX0_pairLeaves_45 : decode cX0_pairLeaves 45 = .ok (.aaload, 1) := by decide +kernel
theorem dX0_pairLeaves_46 : decode cX0_pairLeaves 46 = .ok (.iload_n 2, 1) := by decide +kernel
theorem dX0_pairLeaves_47 : decode cX0_pairLeaves 47 = .ok (.iaload, 1) := by decide +kernel
theorem dX0_pairLeaves_48 : decode cX0_pairLeaves 48 = .ok (.istore 5, 2) := by decide +kernel
theorem dX0_pairLeaves_50 : decode cX0_pairLeaves 50 = .ok (.iload_n 2, 1) := by decide +kernel
theorem dX0_pairLeaves_51 : decode cX0_pairLeaves 51 = .ok (.iconst 1, 1) := by decide +kernel
theorem dX0_pairLeaves_52 : decode cX0_pairLeaves 52 = .ok (.iadd, 1) := by decide +kernel
theorem dX0_pairLeaves_53 : decode cX0_pairLeaves 53 = .ok (.istore 6, 2) := by decide +kernel
theorem dX0_pairLeaves_55 : decode cX0_pairLeaves 55 = .ok (.iload 6, 2) := by decide +kernel
theorem dX0_pairLeaves_57 : decode cX0_pairLeaves 57 = .ok (.aload_n 0, 1) := by decide +kernel
theorem dX0_pairLeaves_58 : decode cX0_pairLeaves 58 = .ok (.getfield 52, 3) := by decide +kernel
theorem dX0_pairLeaves_61 : decode cX0_pairLeaves 61 = .ok (.getfield 76, 3) := by decide +kernel
theorem dX0_pairLeaves_64 : decode cX0_pairLeaves 64 = .ok (.if_icmp .ge 63, 3) := by decide +kernel
theorem dX0_pairLeaves_67 : decode cX0_pairLeaves 67 = .ok (.aload_n 0, 1) := by decide +kernel
theorem dX0_pairLeaves_68 : decode cX0_pairLeaves 68 = .ok (.iload_n 1, 1) := by decide +kernel
theorem dX0_pairLeaves_69 : decode cX0_pairLeaves 69 = .ok (.iload_n 2, 1) := by decide +kernel
theorem dX0_pairLeaves_70 : decode cX0_pairLeaves 70 = .ok (.invokevirtual 100, 3) := by decide +kernel
theorem dX0_pairLeaves_73 : decode cX0_pairLeaves 73 = .ok (.ifCond .eq 18, 3) := by decide +kernel
theorem dX0_pairLeaves_76 : decode cX0_pairLeaves 76 = .ok (.aload_n 0, 1) := by decide +kernel
theorem dX0_pairLeaves_77 : decode cX0_pairLeaves 77 = .ok (.iload_n 1, 1) := by decide +kernel
theorem dX0_pairLeaves_78 : decode cX0_pairLeaves 78 = .ok (.iload 6, 2) := by decide +kernel
theorem dX0_pairLeaves_80 : decode cX0_pairLeaves 80 = .ok (.iload_n 3, 1) := by decide +kernel
theorem dX0_pairLeaves_81 : decode cX0_pairLeaves 81 = .ok (.iload 4, 2) := by decide +kernel
theorem dX0_pairLeaves_83 : decode cX0_pairLeaves 83 = .ok (.iload 5, 2) := by decide +kernel
theorem dX0_pairLeaves_85 : decode cX0_pairLeaves 85 = .ok (.invokevirtual 103, 3) := by decide +kernel
theorem dX0_pairLeaves_88 : decode cX0_pairLeaves 88 = .ok (.goto 4, 3) := by decide +kernel
theorem dX0_pairLeaves_91 : decode cX0_pairLeaves 91 = .ok (.iconst 0, 1) := by decide +kernel
theorem dX0_pairLeaves_92 : decode cX0_pairLeaves 92 = .ok (.istore 7, 2) := by decide +kernel
theorem dX0_pairLeaves_94 : decode cX0_pairLeaves 94 = .ok (.aload_n 0, 1) := by decide +kernel
theorem dX0_pairLeaves_95 : decode cX0_pairLeaves 95 = .ok (.getfield 29, 3) := by decide +kernel
theorem dX0_pairLeaves_98 : decode cX0_pairLeaves 98 = .ok (.iload_n 1, 1) := by decide +kernel
theorem dX0_pairLeaves_99 : decode cX0_pairLeaves 99 = .ok (.aaload, 1) := by decide +kernel
theorem dX0_pairLeaves_100 : decode cX0_pairLeaves 100 = .ok (.iload_n 2, 1) := by decide +kernel
theorem dX0_pairLeaves_101 : decode cX0_pairLeaves 101 = .ok (.bipush 12, 2) := by decide +kernel
theorem dX0_pairLeaves_103 : decode cX0_pairLeaves 103 = .ok (.imul, 1) := by decide +kernel
theorem dX0_pairLeaves_104 : decode cX0_pairLeaves 104 = .ok (.iload 6, 2) := by decide +kernel
theorem dX0_pairLeaves_106 : decode cX0_pairLeaves 106 = .ok (.iadd, 1) := by decide +kernel
theorem dX0_pairLeaves_107 : decode cX0_pairLeaves 107 = .ok (.iload 7, 2) := by decide +kernel
theorem dX0_pairLeaves_109 : decode cX0_pairLeaves 109 = .ok (.iastore, 1) := by decide +kernel
theorem dX0_pairLeaves_110 : decode cX0_pairLeaves 110 = .ok (.aload_n 0, 1) := by decide +kernel
theorem dX0_pairLeaves_111 : decode cX0_pairLeaves 111 = .ok (.getfield 23, 3) := by decide +kernel
theorem dX0_pairLeaves_114 : decode cX0_pairLeaves 114 = .ok (.iload_n 1, 1) := by decide +kernel
theorem dX0_pairLeaves_115 : decode cX0_pairLeaves 115 = .ok (.dup2, 1) := by decide +kernel
theorem dX0_pairLeaves_116 : decode cX0_pairLeaves 116 = .ok (.iaload, 1) := by decide +kernel
theorem dX0_pairLeaves_117 : decode cX0_pairLeaves 117 = .ok (.iload 7, 2) := by decide +kernel
theorem dX0_pairLeaves_119 : decode cX0_pairLeaves 119 = .ok (.ior, 1) := by decide +kernel
theorem dX0_pairLeaves_120 : decode cX0_pairLeaves 120 = .ok (.iastore, 1) := by decide +kernel
theorem dX0_pairLeaves_121 : decode cX0_pairLeaves 121 = .ok (.iinc 6 1, 3) := by decide +kernel
theorem dX0_pairLeaves_124 : decode cX0_pairLeaves 124 = .ok (.goto (-69), 3) := by decide +kernel
theorem dX0_pairLeaves_127 : decode cX0_pairLeaves 127 = .ok (.iinc 2 1, 3) := by decide +kernel
theorem dX0_pairLeaves_130 : decode cX0_pairLeaves 130 = .ok (.goto (-121), 3) := by decide +kernel
theorem dX0_pairLeaves_133 : decode cX0_pairLeaves 133 = .ok (.return_, 1) := by decide +kernel
theorem dX0_madeWith_0 : decode cX0_madeWith 0 = .ok (.aload_n 0, 1) := by decide +kernel
theorem dX0_madeWith_1 : decode cX0_madeWith 1 = .ok (.iload_n 1, 1) := by decide +kernel
theorem dX0_madeWith_2 : decode cX0_madeWith 2 = .ok (.iload_n 2, 1) := by decide +kernel
theorem dX0_madeWith_3 : decode cX0_madeWith 3 = .ok (.invokevirtual 100, 3) := by decide +kernel
theorem dX0_madeWith_6 : decode cX0_madeWith 6 = .ok (.ifCond .ne 5, 3) := by decide +kernel
theorem dX0_madeWith_9 : decode cX0_madeWith 9 = .ok (.iconst 0, 1) := by decide +kernel
theorem dX0_madeWith_10 : decode cX0_madeWith 10 = .ok (.ireturn, 1) := by decide +kernel
theorem dX0_madeWith_11 : decode cX0_madeWith 11 = .ok (.aload_n 0, 1) := by decide +kernel
theorem dX0_madeWith_12 : decode cX0_madeWith 12 = .ok (.getfield 52, 3) := by decide +kernel
theorem dX0_madeWith_15 : decode cX0_madeWith 15 = .ok (.iload_n 2, 1) := by decide +kernel
theorem dX0_madeWith_16 : decode cX0_madeWith 16 = .ok (.iconst 2, 1) := by decide +kernel
theorem dX0_madeWith_17 : decode cX0_madeWith 17 = .ok (.invokevirtual 81, 3) := by decide +kernel
theorem dX0_madeWith_20 : decode cX0_madeWith 20 = .ok (.istore 6, 2) := by decide +kernel
theorem dX0_madeWith_22 : decode cX0_madeWith 22 = .ok (.iload 4, 2) := by decide +kernel
theorem dX0_madeWith_24 : decode cX0_madeWith 24 = .ok (.aload_n 0, 1) := by decide +kernel
theorem dX0_madeWith_25 : decode cX0_madeWith 25 = .ok (.getfield 11, 3) := by decide +kernel
theorem dX0_madeWith_28 : decode cX0_madeWith 28 = .ok (.iload_n 1, 1) := by decide +kernel
theorem dX0_madeWith_29 : decode cX0_madeWith 29 = .ok (.aaload, 1) := by decide +kernel
theorem dX0_madeWith_30 : decode cX0_madeWith 30 = .ok (.iload_n 2, 1) := by decide +kernel
theorem dX0_madeWith_31 : decode cX0_madeWith 31 = .ok (.iaload, 1) := by decide +kernel
theorem dX0_madeWith_32 : decode cX0_madeWith 32 = .ok (.isub, 1) := by decide +kernel
theorem dX0_madeWith_33 : decode cX0_madeWith 33 = .ok (.invokestatic 107, 3) := by decide +kernel
theorem dX0_madeWith_36 : decode cX0_madeWith 36 = .ok (.istore 7, 2) := by decide +kernel
theorem dX0_madeWith_38 : decode cX0_madeWith 38 = .ok (.iload 5, 2) := by decide +kernel
theorem dX0_madeWith_40 : decode cX0_madeWith 40 = .ok (.aload_n 0, 1) := by decide +kernel
theorem dX0_madeWith_41 : decode cX0_madeWith 41 = .ok (.getfield 16, 3) := by decide +kernel
theorem dX0_madeWith_44 : decode cX0_madeWith 44 = .ok (.iload_n 1, 1) := by decide +kernel
theorem dX0_madeWith_45 : decode cX0_madeWith 45 = .ok (.aaload, 1) := by decide +kernel
theorem dX0_madeWith_46 : decode cX0_madeWith 46 = .ok (.iload_n 2, 1) := by decide +kernel
theorem dX0_madeWith_47 : decode cX0_madeWith 47 = .ok (.iaload, 1) := by decide +kernel
theorem dX0_madeWith_48 : decode cX0_madeWith 48 = .ok (.isub, 1) := by decide +kernel
theorem dX0_madeWith_49 : decode cX0_madeWith 49 = .ok (.istore 8, 2) := by decide +kernel
theorem dX0_madeWith_51 : decode cX0_madeWith 51 = .ok (.iload 7, 2) := by decide +kernel
theorem dX0_madeWith_53 : decode cX0_madeWith 53 = .ok (.iload 8, 2) := by decide +kernel
theorem dX0_madeWith_55 : decode cX0_madeWith 55 = .ok (.invokestatic 107, 3) := by decide +kernel
theorem dX0_madeWith_58 : decode cX0_madeWith 58 = .ok (.invokestatic 113, 3) := by decide +kernel
theorem dX0_madeWith_61 : decode cX0_madeWith 61 = .ok (.istore 9, 2) := by decide +kernel
theorem dX0_madeWith_63 : decode cX0_madeWith 63 = .ok (.aload_n 0, 1) := by decide +kernel
theorem dX0_madeWith_64 : decode cX0_madeWith 64 = .ok (.iload 6, 2) := by decide +kernel
theorem dX0_madeWith_66 : decode cX0_madeWith 66 = .ok (.iload_n 3, 1) := by decide +kernel
theorem dX0_madeWith_67 : decode cX0_madeWith 67 = .ok (.iload 9, 2) := by decide +kernel
theorem dX0_madeWith_69 : decode cX0_madeWith 69 = .ok (.iload 7, 2) := by decide +kernel
theorem dX0_madeWith_71 : decode cX0_madeWith 71 = .ok (.ifCond .ne 12, 3) := by decide +kernel
theorem dX0_madeWith_74 : decode cX0_madeWith 74 = .ok (.iload 8, 2) := by decide +kernel
theorem dX0_madeWith_76 : decode cX0_madeWith 76 = .ok (.ifCond .le 7, 3) := by decide +kernel
theorem dX0_madeWith_79 : decode cX0_madeWith 79 = .ok (.iconst 1, 1) := by decide +kernel
theorem dX0_madeWith_80 : decode cX0_madeWith 80 = .ok (.goto 4, 3) := by decide +kernel
theorem dX0_madeWith_83 : decode cX0_madeWith 83 = .ok (.iconst 0, 1) := by decide +kernel
theorem dX0_madeWith_84 : decode cX0_madeWith 84 = .ok (.invokevirtual 116, 3) := by decide +kernel
theorem dX0_madeWith_87 : decode cX0_madeWith 87 = .ok (.aload_n 0, 1) := by decide +kernel
theorem dX0_madeWith_88 : decode cX0_madeWith 88 = .ok (.iload_n 3, 1) := by decide +kernel
theorem dX0_madeWith_89 : decode cX0_madeWith 89 = .ok (.iload 6, 2) := by decide +kernel
theorem dX0_madeWith_91 : decode cX0_madeWith 91 = .ok (.iload 9, 2) := by decide +kernel
theorem dX0_madeWith_93 : decode cX0_madeWith 93 = .ok (.iload 7, 2) := by decide +kernel
theorem dX0_madeWith_95 : decode cX0_madeWith 95 = .ok (.ifCond .ne 12, 3) := by decide +kernel
theorem dX0_madeWith_98 : decode cX0_madeWith 98 = .ok (.iload 8, 2) := by decide +kernel
theorem dX0_madeWith_100 : decode cX0_madeWith 100 = .ok (.ifCond .ge 7, 3) := by decide +kernel
theorem dX0_madeWith_103 : decode cX0_madeWith 103 = .ok (.iconst 1, 1) := by decide +kernel
theorem dX0_madeWith_104 : decode cX0_madeWith 104 = .ok (.goto 4, 3) := by decide +kernel
theorem dX0_madeWith_107 : decode cX0_madeWith 107 = .ok (.iconst 0, 1) := by decide +kernel
theorem dX0_madeWith_108 : decode cX0_madeWith 108 = .ok (.invokevirtual 116, 3) := by decide +kernel
theorem dX0_madeWith_111 : decode cX0_madeWith 111 = .ok (.ior, 1) := by decide +kernel
theorem dX0_madeWith_112 : decode cX0_madeWith 112 = .ok (.ireturn, 1) := by decide +kernel
theorem dX0_madeInOrder_0 : decode cX0_madeInOrder 0 = .ok (.iconst 3, 1) := by decide +kernel
theorem dX0_madeInOrder_1 : decode cX0_madeInOrder 1 = .ok (.iload_n 1, 1) := by decide +kernel
theorem dX0_madeInOrder_2 : decode cX0_madeInOrder 2 = .ok (.imul, 1) := by decide +kernel
theorem dX0_madeInOrder_3 : decode cX0_madeInOrder 3 = .ok (.iload_n 2, 1) := by decide +kernel
theorem dX0_madeInOrder_4 : decode cX0_madeInOrder 4 = .ok (.iadd, 1) := by decide +kernel
theorem dX0_madeInOrder_5 : decode cX0_madeInOrder 5 = .ok (.istore 5, 2) := by decide +kernel
theorem dX0_madeInOrder_7 : decode cX0_madeInOrder 7 = .ok (.aload_n 0, 1) := by decide +kernel
theorem dX0_madeInOrder_8 : decode cX0_madeInOrder 8 = .ok (.getfield 32, 3) := by decide +kernel
theorem dX0_madeInOrder_11 : decode cX0_madeInOrder 11 = .ok (.iconst 3, 1) := by decide +kernel
theorem dX0_madeInOrder_12 : decode cX0_madeInOrder 12 = .ok (.aaload, 1) := by decide +kernel
theorem dX0_madeInOrder_13 : decode cX0_madeInOrder 13 = .ok (.iload 5, 2) := by decide +kernel
theorem dX0_madeInOrder_15 : decode cX0_madeInOrder 15 = .ok (.iaload, 1) := by decide +kernel
theorem dX0_madeInOrder_16 : decode cX0_madeInOrder 16 = .ok (.istore 6, 2) := by decide +kernel
theorem dX0_madeInOrder_18 : decode cX0_madeInOrder 18 = .ok (.iload_n 3, 1) := by decide +kernel
theorem dX0_madeInOrder_19 : decode cX0_madeInOrder 19 = .ok (.iconst 1, 1) := by decide +kernel
theorem dX0_madeInOrder_20 : decode cX0_madeInOrder 20 = .ok (.if_icmp .gt 17, 3) := by decide +kernel
theorem dX0_madeInOrder_23 : decode cX0_madeInOrder 23 = .ok (.iload 6, 2) := by decide +kernel
theorem dX0_madeInOrder_25 : decode cX0_madeInOrder 25 = .ok (.aload_n 0, 1) := by decide +kernel
theorem dX0_madeInOrder_26 : decode cX0_madeInOrder 26 = .ok (.getfield 32, 3) := by decide +kernel
theorem dX0_madeInOrder_29 : decode cX0_madeInOrder 29 = .ok (.iconst 0, 1) := by decide +kernel
theorem dX0_madeInOrder_30 : decode cX0_madeInOrder 30 = .ok (.aaload, 1) := by decide +kernel
theorem dX0_madeInOrder_31 : decode cX0_madeInOrder 31 = .ok (.iload 5, 2) := by decide +kernel
theorem dX0_madeInOrder_33 : decode cX0_madeInOrder 33 = .ok (.iaload, 1) := by decide +kernel
theorem dX0_madeInOrder_34 : decode cX0_madeInOrder 34 = .ok (.ior, 1) := by decide +kernel
theorem dX0_madeInOrder_35 : decode cX0_madeInOrder 35 = .ok (.istore 6, 2) := by decide +kernel
theorem dX0_madeInOrder_37 : decode cX0_madeInOrder 37 = .ok (.iload 4, 2) := by decide +kernel
theorem dX0_madeInOrder_39 : decode cX0_madeInOrder 39 = .ok (.ifCond .eq 17, 3) := by decide +kernel
theorem dX0_madeInOrder_42 : decode cX0_madeInOrder 42 = .ok (.iload 6, 2) := by decide +kernel
theorem dX0_madeInOrder_44 : decode cX0_madeInOrder 44 = .ok (.aload_n 0, 1) := by decide +kernel
theorem dX0_madeInOrder_45 : decode cX0_madeInOrder 45 = .ok (.getfield 32, 3) := by decide +kernel
theorem dX0_madeInOrder_48 : decode cX0_madeInOrder 48 = .ok (.iconst 1, 1) := by decide +kernel
theorem dX0_madeInOrder_49 : decode cX0_madeInOrder 49 = .ok (.aaload, 1) := by decide +kernel
theorem dX0_madeInOrder_50 : decode cX0_madeInOrder 50 = .ok (.iload 5, 2) := by decide +kernel
theorem dX0_madeInOrder_52 : decode cX0_madeInOrder 52 = .ok (.iaload, 1) := by decide +kernel
theorem dX0_madeInOrder_53 : decode cX0_madeInOrder 53 = .ok (.ior, 1) := by decide +kernel
theorem dX0_madeInOrder_54 : decode cX0_madeInOrder 54 = .ok (.istore 6, 2) := by decide +kernel
theorem dX0_madeInOrder_56 : decode cX0_madeInOrder 56 = .ok (.iload_n 3, 1) := by decide +kernel
theorem dX0_madeInOrder_57 : decode cX0_madeInOrder 57 = .ok (.iconst 3, 1) := by decide +kernel
theorem dX0_madeInOrder_58 : decode cX0_madeInOrder 58 = .ok (.if_icmp .lt 17, 3) := by decide +kernel
theorem dX0_madeInOrder_61 : decode cX0_madeInOrder 61 = .ok (.iload 6, 2) := by decide +kernel
theorem dX0_madeInOrder_63 : decode cX0_madeInOrder 63 = .ok (.aload_n 0, 1) := by decide +kernel
theorem dX0_madeInOrder_64 : decode cX0_madeInOrder 64 = .ok (.getfield 32, 3) := by decide +kernel
theorem dX0_madeInOrder_67 : decode cX0_madeInOrder 67 = .ok (.iconst 2, 1) := by decide +kernel
theorem dX0_madeInOrder_68 : decode cX0_madeInOrder 68 = .ok (.aaload, 1) := by decide +kernel
theorem dX0_madeInOrder_69 : decode cX0_madeInOrder 69 = .ok (.iload 5, 2) := by decide +kernel
theorem dX0_madeInOrder_71 : decode cX0_madeInOrder 71 = .ok (.iaload, 1) := by decide +kernel
theorem dX0_madeInOrder_72 : decode cX0_madeInOrder 72 = .ok (.ior, 1) := by decide +kernel
theorem dX0_madeInOrder_73 : decode cX0_madeInOrder 73 = .ok (.istore 6, 2) := by decide +kernel
theorem dX0_madeInOrder_75 : decode cX0_madeInOrder 75 = .ok (.iload 6, 2) := by decide +kernel
theorem dX0_madeInOrder_77 : decode cX0_madeInOrder 77 = .ok (.ireturn, 1) := by decide +kernel
theorem dX0_isInForce_0 : decode cX0_isInForce 0 = .ok (.aload_n 0, 1) := by decide +kernel
theorem dX0_isInForce_1 : decode cX0_isInForce 1 = .ok (.getfield 26, 3) := by decide +kernel
theorem dX0_isInForce_4 : decode cX0_isInForce 4 = .ok (.iload_n 1, 1) := by decide +kernel
theorem dX0_isInForce_5 : decode cX0_isInForce 5 = .ok (.iaload, 1) := by decide +kernel
theorem dX0_isInForce_6 : decode cX0_isInForce 6 = .ok (.iload_n 2, 1) := by decide +kernel
theorem dX0_isInForce_7 : decode cX0_isInForce 7 = .ok (.ishr, 1) := by decide +kernel
theorem dX0_isInForce_8 : decode cX0_isInForce 8 = .ok (.iconst 1, 1) := by decide +kernel
theorem dX0_isInForce_9 : decode cX0_isInForce 9 = .ok (.iand, 1) := by decide +kernel
theorem dX0_isInForce_10 : decode cX0_isInForce 10 = .ok (.iconst 1, 1) := by decide +kernel
theorem dX0_isInForce_11 : decode cX0_isInForce 11 = .ok (.if_icmp .ne 7, 3) := by decide +kernel
theorem dX0_isInForce_14 : decode cX0_isInForce 14 = .ok (.iconst 1, 1) := by decide +kernel
theorem dX0_isInForce_15 : decode cX0_isInForce 15 = .ok (.goto 4, 3) := by decide +kernel
theorem dX0_isInForce_18 : decode cX0_isInForce 18 = .ok (.iconst 0, 1) := by decide +kernel
theorem dX0_isInForce_19 : decode cX0_isInForce 19 = .ok (.ireturn, 1) := by decide +kernel
theorem dX0_firstClash_0 : decode cX0_firstClash 0 = .ok (.iconst 0, 1) := by decide +kernel
theorem dX0_firstClash_1 : decode cX0_firstClash 1 = .ok (.istore_n 2, 1) := by decide +kernel
theorem dX0_firstClash_2 : decode cX0_firstClash 2 = .ok (.iload_n 2, 1) := by decide +kernel
theorem dX0_firstClash_3 : decode cX0_firstClash 3 = .ok (.aload_n 0, 1) := by decide +kernel
theorem dX0_firstClash_4 : decode cX0_firstClash 4 = .ok (.getfield 56, 3) := by decide +kernel
theorem dX0_firstClash_7 : decode cX0_firstClash 7 = .ok (.getfield 76, 3) := by decide +kernel
theorem dX0_firstClash_10 : decode cX0_firstClash 10 = .ok (.if_icmp .ge 29, 3) := by decide +kernel
theorem dX0_firstClash_13 : decode cX0_firstClash 13 = .ok (.aload_n 0, 1) := by decide +kernel
theorem dX0_firstClash_14 : decode cX0_firstClash 14 = .ok (.iload_n 1, 1) := by decide +kernel
theorem dX0_firstClash_15 : decode cX0_firstClash 15 = .ok (.iload_n 2, 1) := by decide +kernel
theorem dX0_firstClash_16 : decode cX0_firstClash 16 = .ok (.invokevirtual 120, 3) := by decide +kernel
theorem dX0_firstClash_19 : decode cX0_firstClash 19 = .ok (.ifCond .eq 14, 3) := by decide +kernel
theorem dX0_firstClash_22 : decode cX0_firstClash 22 = .ok (.aload_n 0, 1) := by decide +kernel
theorem dX0_firstClash_23 : decode cX0_firstClash 23 = .ok (.iload_n 1, 1) := by decide +kernel
theorem dX0_firstClash_24 : decode cX0_firstClash 24 = .ok (.iload_n 2, 1) := by decide +kernel
theorem dX0_firstClash_25 : decode cX0_firstClash 25 = .ok (.invokevirtual 123, 3) := by decide +kernel
theorem dX0_firstClash_28 : decode cX0_firstClash 28 = .ok (.ifCond .eq 5, 3) := by decide +kernel
theorem dX0_firstClash_31 : decode cX0_firstClash 31 = .ok (.iload_n 2, 1) := by decide +kernel
theorem dX0_firstClash_32 : decode cX0_firstClash 32 = .ok (.ireturn, 1) := by decide +kernel
theorem dX0_firstClash_33 : decode cX0_firstClash 33 = .ok (.iinc 2 1, 3) := by decide +kernel
theorem dX0_firstClash_36 : decode cX0_firstClash 36 = .ok (.goto (-34), 3) := by decide +kernel
theorem dX0_firstClash_39 : decode cX0_firstClash 39 = .ok (.iconst (-1), 1) := by decide +kernel
theorem dX0_firstClash_40 : decode cX0_firstClash 40 = .ok (.ireturn, 1) := by decide +kernel
theorem dX0_applies_0 : decode cX0_applies 0 = .ok (.aload_n 0, 1) := by decide +kernel
theorem dX0_applies_1 : decode cX0_applies 1 = .ok (.getfield 23, 3) := by decide +kernel
theorem dX0_applies_4 : decode cX0_applies 4 = .ok (.iload_n 1, 1) := by decide +kernel
theorem dX0_applies_5 : decode cX0_applies 5 = .ok (.iaload, 1) := by decide +kernel
theorem dX0_applies_6 : decode cX0_applies 6 = .ok (.iload_n 2, 1) := by decide +kernel
theorem dX0_applies_7 : decode cX0_applies 7 = .ok (.ishr, 1) := by decide +kernel
theorem dX0_applies_8 : decode cX0_applies 8 = .ok (.iconst 1, 1) := by decide +kernel
theorem dX0_applies_9 : decode cX0_applies 9 = .ok (.iand, 1) := by decide +kernel
theorem dX0_applies_10 : decode cX0_applies 10 = .ok (.iconst 1, 1) := by decide +kernel
theorem dX0_applies_11 : decode cX0_applies 11 = .ok (.if_icmp .ne 7, 3) := by decide +kernel
theorem dX0_applies_14 : decode cX0_applies 14 = .ok (.iconst 1, 1) := by decide +kernel
theorem dX0_applies_15 : decode cX0_applies 15 = .ok (.goto 4, 3) := by decide +kernel
theorem dX0_applies_18 : decode cX0_applies 18 = .ok (.iconst 0, 1) := by decide +kernel
theorem dX0_applies_19 : decode cX0_applies 19 = .ok (.ireturn, 1) := by decide +kernel
theorem dX0_alike_0 : decode cX0_alike 0 = .ok (.aload_n 0, 1) := by decide +kernel
theorem dX0_alike_1 : decode cX0_alike 1 = .ok (.getfield 56, 3) := by decide +kernel
theorem dX0_alike_4 : decode cX0_alike 4 = .ok (.iload_n 1, 1) := by decide +kernel
theorem dX0_alike_5 : decode cX0_alike 5 = .ok (.iload_n 3, 1) := by decide +kernel
theorem dX0_alike_6 : decode cX0_alike 6 = .ok (.invokevirtual 81, 3) := by decide +kernel
theorem dX0_alike_9 : decode cX0_alike 9 = .ok (.aload_n 0, 1) := by decide +kernel
theorem dX0_alike_10 : decode cX0_alike 10 = .ok (.getfield 56, 3) := by decide +kernel
theorem dX0_alike_13 : decode cX0_alike 13 = .ok (.iload_n 2, 1) := by decide +kernel
theorem dX0_alike_14 : decode cX0_alike 14 = .ok (.iload_n 3, 1) := by decide +kernel
theorem dX0_alike_15 : decode cX0_alike 15 = .ok (.invokevirtual 81, 3) := by decide +kernel
theorem dX0_alike_18 : decode cX0_alike 18 = .ok (.if_icmp .ne 7, 3) := by decide +kernel
theorem dX0_alike_21 : decode cX0_alike 21 = .ok (.iconst 1, 1) := by decide +kernel
theorem dX0_alike_22 : decode cX0_alike 22 = .ok (.goto 4, 3) := by decide +kernel
theorem dX0_alike_25 : decode cX0_alike 25 = .ok (.iconst 0, 1) := by decide +kernel
theorem dX0_alike_26 : decode cX0_alike 26 = .ok (.ireturn, 1) := by decide +kernel
theorem dX0_contradictsEarlier_0 : decode cX0_contradictsEarlier 0 = .ok (.iconst 0, 1) := by decide +kernel
theorem dX0_contradictsEarlier_1 : decode cX0_contradictsEarlier 1 = .ok (.istore_n 3, 1) := by decide +kernel
theorem dX0_contradictsEarlier_2 : decode cX0_contradictsEarlier 2 = .ok (.iload_n 3, 1) := by decide +kernel
theorem dX0_contradictsEarlier_3 : decode cX0_contradictsEarlier 3 = .ok (.iload_n 2, 1) := by decide +kernel
theorem dX0_contradictsEarlier_4 : decode cX0_contradictsEarlier 4 = .ok (.if_icmp .ge 40, 3) := by decide +kernel
theorem dX0_contradictsEarlier_7 : decode cX0_contradictsEarlier 7 = .ok (.aload_n 0, 1) := by decide +kernel
theorem dX0_contradictsEarlier_8 : decode cX0_contradictsEarlier 8 = .ok (.iload_n 1, 1) := by decide +kernel
theorem dX0_contradictsEarlier_9 : decode cX0_contradictsEarlier 9 = .ok (.iload_n 3, 1) := by decide +kernel
theorem dX0_contradictsEarlier_10 : decode cX0_contradictsEarlier 10 = .ok (.invokevirtual 120, 3) := by decide +kernel
theorem dX0_contradictsEarlier_13 : decode cX0_contradictsEarlier 13 = .ok (.ifCond .eq 25, 3) := by decide +kernel
theorem dX0_contradictsEarlier_16 : decode cX0_contradictsEarlier 16 = .ok (.aload_n 0, 1) := by decide +kernel
theorem dX0_contradictsEarlier_17 : decode cX0_contradictsEarlier 17 = .ok (.iload_n 3, 1) := by decide +kernel
theorem dX0_contradictsEarlier_18 : decode cX0_contradictsEarlier 18 = .ok (.iload_n 2, 1) := by decide +kernel
theorem dX0_contradictsEarlier_19 : decode cX0_contradictsEarlier 19 = .ok (.iconst 4, 1) := by decide +kernel
theorem dX0_contradictsEarlier_20 : decode cX0_contradictsEarlier 20 = .ok (.invokevirtual 126, 3) := by decide +kernel
theorem dX0_contradictsEarlier_23 : decode cX0_contradictsEarlier 23 = .ok (.ifCond .eq 15, 3) := by decide +kernel
theorem dX0_contradictsEarlier_26 : decode cX0_contradictsEarlier 26 = .ok (.aload_n 0, 1) := by decide +kernel
theorem dX0_contradictsEarlier_27 : decode cX0_contradictsEarlier 27 = .ok (.iload_n 3, 1) := by decide +kernel
theorem dX0_contradictsEarlier_28 : decode cX0_contradictsEarlier 28 = .ok (.iload_n 2, 1) := by decide +kernel
theorem dX0_contradictsEarlier_29 : decode cX0_contradictsEarlier 29 = .ok (.iconst 3, 1) := by decide +kernel
theorem dX0_contradictsEarlier_30 : decode cX0_contradictsEarlier 30 = .ok (.invokevirtual 126, 3) := by decide +kernel
theorem dX0_contradictsEarlier_33 : decode cX0_contradictsEarlier 33 = .ok (.ifCond .ne 5, 3) := by decide +kernel
theorem dX0_contradictsEarlier_36 : decode cX0_contradictsEarlier 36 = .ok (.iconst 1, 1) := by decide +kernel
theorem dX0_contradictsEarlier_37 : decode cX0_contradictsEarlier 37 = .ok (.ireturn, 1) := by decide +kernel
theorem dX0_contradictsEarlier_38 : decode cX0_contradictsEarlier 38 = .ok (.iinc 3 1, 3) := by decide +kernel
theorem dX0_contradictsEarlier_41 : decode cX0_contradictsEarlier 41 = .ok (.goto (-39), 3) := by decide +kernel
theorem dX0_contradictsEarlier_44 : decode cX0_contradictsEarlier 44 = .ok (.iconst 0, 1) := by decide +kernel
theorem dX0_contradictsEarlier_45 : decode cX0_contradictsEarlier 45 = .ok (.ireturn, 1) := by decide +kernel
theorem dX0_fillRulesByLeaves_0 : decode cX0_fillRulesByLeaves 0 = .ok (.aload_n 0, 1) := by decide +kernel
theorem dX0_fillRulesByLeaves_1 : decode cX0_fillRulesByLeaves 1 = .ok (.getfield 41, 3) := by decide +kernel
theorem dX0_fillRulesByLeaves_4 : decode cX0_fillRulesByLeaves 4 = .ok (.iload_n 1, 1) := by decide +kernel
theorem dX0_fillRulesByLeaves_5 : decode cX0_fillRulesByLeaves 5 = .ok (.if_icmp .ne 4, 3) := by decide +kernel
theorem dX0_fillRulesByLeaves_8 : decode cX0_fillRulesByLeaves 8 = .ok (.return_, 1) := by decide +kernel
theorem dX0_fillRulesByLeaves_9 : decode cX0_fillRulesByLeaves 9 = .ok (.aload_n 0, 1) := by decide +kernel
theorem dX0_fillRulesByLeaves_10 : decode cX0_fillRulesByLeaves 10 = .ok (.iload_n 1, 1) := by decide +kernel
theorem dX0_fillRulesByLeaves_11 : decode cX0_fillRulesByLeaves 11 = .ok (.putfield 41, 3) := by decide +kernel
theorem dX0_fillRulesByLeaves_14 : decode cX0_fillRulesByLeaves 14 = .ok (.aload_n 0, 1) := by decide +kernel
theorem dX0_fillRulesByLeaves_15 : decode cX0_fillRulesByLeaves 15 = .ok (.getfield 38, 3) := by decide +kernel
theorem dX0_fillRulesByLeaves_18 : decode cX0_fillRulesByLeaves 18 = .ok (.iconst 0, 1) := by decide +kernel
theorem dX0_fillRulesByLeaves_19 : decode cX0_fillRulesByLeaves 19 = .ok (.iconst 0, 1) := by decide +kernel
theorem dX0_fillRulesByLeaves_20 : decode cX0_fillRulesByLeaves 20 = .ok (.iastore, 1) := by decide +kernel
theorem dX0_fillRulesByLeaves_21 : decode cX0_fillRulesByLeaves 21 = .ok (.iconst 1, 1) := by decide +kernel
theorem dX0_fillRulesByLeaves_22 : decode cX0_fillRulesByLeaves 22 = .ok (.aload_n 0, 1) := by decide +kernel
theorem dX0_fillRulesByLeaves_23 : decode cX0_fillRulesByLeaves 23 = .ok (.getfield 52, 3) := by decide +kernel
theorem dX0_fillRulesByLeaves_26 : decode cX0_fillRulesByLeaves 26 = .ok (.getfield 76, 3) := by decide +kernel
theorem dX0_fillRulesByLeaves_29 : decode cX0_fillRulesByLeaves 29 = .ok (.ishl, 1) := by decide +kernel
theorem dX0_fillRulesByLeaves_30 : decode cX0_fillRulesByLeaves 30 = .ok (.istore_n 2, 1) := by decide +kernel
theorem dX0_fillRulesByLeaves_31 : decode cX0_fillRulesByLeaves 31 = .ok (.iconst 1, 1) := by decide +kernel
theorem dX0_fillRulesByLeaves_32 : decode cX0_fillRulesByLeaves 32 = .ok (.istore_n 3, 1) := by decide +kernel
theorem dX0_fillRulesByLeaves_33 : decode cX0_fillRulesByLeaves 33 = .ok (.iload_n 3, 1) := by decide +kernel
theorem dX0_fillRulesByLeaves_34 : decode cX0_fillRulesByLeaves 34 = .ok (.iload_n 2, 1) := by decide +kernel
theorem dX0_fillRulesByLeaves_35 : decode cX0_fillRulesByLeaves 35 = .ok (.if_icmp .ge 84, 3) := by decide +kernel
theorem dX0_fillRulesByLeaves_38 : decode cX0_fillRulesByLeaves 38 = .ok (.iload_n 3, 1) := by decide +kernel
theorem dX0_fillRulesByLeaves_39 : decode cX0_fillRulesByLeaves 39 = .ok (.invokestatic 130, 3) := by decide +kernel
theorem dX0_fillRulesByLeaves_42 : decode cX0_fillRulesByLeaves 42 = .ok (.istore 4, 2) := by decide +kernel
theorem dX0_fillRulesByLeaves_44 : decode cX0_fillRulesByLeaves 44 = .ok (.bipush 31, 2) := by decide +kernel
theorem dX0_fillRulesByLeaves_46 : decode cX0_fillRulesByLeaves 46 = .ok (.iload_n 3, 1) := by decide +kernel
theorem dX0_fillRulesByLeaves_47 : decode cX0_fillRulesByLeaves 47 = .ok (.invokestatic 135, 3) := by decide +kernel
theorem dX0_fillRulesByLeaves_50 : decode cX0_fillRulesByLeaves 50 = .ok (.isub, 1) := by decide +kernel
theorem dX0_fillRulesByLeaves_51 : decode cX0_fillRulesByLeaves 51 = .ok (.istore 5, 2) := by decide +kernel
theorem dX0_fillRulesByLeaves_53 : decode cX0_fillRulesByLeaves 53 = .ok (.aload_n 0, 1) := by decide +kernel
theorem dX0_fillRulesByLeaves_54 : decode cX0_fillRulesByLeaves 54 = .ok (.getfield 38, 3) := by decide +kernel
theorem dX0_fillRulesByLeaves_57 : decode cX0_fillRulesByLeaves 57 = .ok (.iload_n 3, 1) := by decide +kernel
theorem dX0_fillRulesByLeaves_58 : decode cX0_fillRulesByLeaves 58 = .ok (.iload 4, 2) := by decide +kernel
theorem dX0_fillRulesByLeaves_60 : decode cX0_fillRulesByLeaves 60 = .ok (.iload 5, 2) := by decide +kernel
theorem dX0_fillRulesByLeaves_62 : decode cX0_fillRulesByLeaves 62 = .ok (.if_icmp .ne 7, 3) := by decide +kernel
theorem dX0_fillRulesByLeaves_65 : decode cX0_fillRulesByLeaves 65 = .ok (.iconst 0, 1) := by decide +kernel
theorem dX0_fillRulesByLeaves_66 : decode cX0_fillRulesByLeaves 66 = .ok (.goto 46, 3) := by decide +kernel
theorem dX0_fillRulesByLeaves_69 : decode cX0_fillRulesByLeaves 69 = .ok (.aload_n 0, 1) := by decide +kernel
theorem dX0_fillRulesByLeaves_70 : decode cX0_fillRulesByLeaves 70 = .ok (.getfield 38, 3) := by decide +kernel
theorem dX0_fillRulesByLeaves_73 : decode cX0_fillRulesByLeaves 73 = .ok (.iload_n 3, 1) := by decide +kernel
theorem dX0_fillRulesByLeaves_74 : decode cX0_fillRulesByLeaves 74 = .ok (.iconst 1, 1) := by decide +kernel
theorem dX0_fillRulesByLeaves_75 : decode cX0_fillRulesByLeaves 75 = .ok (.iload 4, 2) := by decide +kernel
theorem dX0_fillRulesByLeaves_77 : decode cX0_fillRulesByLeaves 77 = .ok (.ishl, 1) := by decide +kernel
theorem dX0_fillRulesByLeaves_78 : decode cX0_fillRulesByLeaves 78 = .ok (.iconst (-1), 1) := by decide +kernel
theorem dX0_fillRulesByLeaves_79 : decode cX0_fillRulesByLeaves 79 = .ok (.ixor, 1) := by decide +kernel
theorem dX0_fillRulesByLeaves_80 : decode cX0_fillRulesByLeaves 80 = .ok (.iand, 1) := by decide +kernel
theorem dX0_fillRulesByLeaves_81 : decode cX0_fillRulesByLeaves 81 = .ok (.iaload, 1) := by decide +kernel
theorem dX0_fillRulesByLeaves_82 : decode cX0_fillRulesByLeaves 82 = .ok (.aload_n 0, 1) := by decide +kernel
theorem dX0_fillRulesByLeaves_83 : decode cX0_fillRulesByLeaves 83 = .ok (.getfield 38, 3) := by decide +kernel
theorem dX0_fillRulesByLeaves_86 : decode cX0_fillRulesByLeaves 86 = .ok (.iload_n 3, 1) := by decide +kernel
theorem dX0_fillRulesByLeaves_87 : decode cX0_fillRulesByLeaves 87 = .ok (.iconst 1, 1) := by decide +kernel
theorem dX0_fillRulesByLeaves_88 : decode cX0_fillRulesByLeaves 88 = .ok (.iload 5, 2) := by decide +kernel
theorem dX0_fillRulesByLeaves_90 : decode cX0_fillRulesByLeaves 90 = .ok (.ishl, 1) := by decide +kernel
theorem dX0_fillRulesByLeaves_91 : decode cX0_fillRulesByLeaves 91 = .ok (.iconst (-1), 1) := by decide +kernel
theorem dX0_fillRulesByLeaves_92 : decode cX0_fillRulesByLeaves 92 = .ok (.ixor, 1) := by decide +kernel
theorem dX0_fillRulesByLeaves_93 : decode cX0_fillRulesByLeaves 93 = .ok (.iand, 1) := by decide +kernel
theorem dX0_fillRulesByLeaves_94 : decode cX0_fillRulesByLeaves 94 = .ok (.iaload, 1) := by decide +kernel
theorem dX0_fillRulesByLeaves_95 : decode cX0_fillRulesByLeaves 95 = .ok (.ior, 1) := by decide +kernel
theorem dX0_fillRulesByLeaves_96 : decode cX0_fillRulesByLeaves 96 = .ok (.aload_n 0, 1) := by decide +kernel
theorem dX0_fillRulesByLeaves_97 : decode cX0_fillRulesByLeaves 97 = .ok (.getfield 29, 3) := by decide +kernel
theorem dX0_fillRulesByLeaves_100 : decode cX0_fillRulesByLeaves 100 = .ok (.iload_n 1, 1) := by decide +kernel
theorem dX0_fillRulesByLeaves_101 : decode cX0_fillRulesByLeaves 101 = .ok (.aaload, 1) := by decide +kernel
theorem dX0_fillRulesByLeaves_102 : decode cX0_fillRulesByLeaves 102 = .ok (.iload 4, 2) := by decide +kernel
theorem dX0_fillRulesByLeaves_104 : decode cX0_fillRulesByLeaves 104 = .ok (.bipush 12, 2) := by decide +kernel
theorem dX0_fillRulesByLeaves_106 : decode cX0_fillRulesByLeaves 106 = .ok (.imul, 1) := by decide +kernel
theorem dX0_fillRulesByLeaves_107 : decode cX0_fillRulesByLeaves 107 = .ok (.iload 5, 2) := by decide +kernel
theorem dX0_fillRulesByLeaves_109 : decode cX0_fillRulesByLeaves 109 = .ok (.iadd, 1) := by decide +kernel
theorem dX0_fillRulesByLeaves_110 : decode cX0_fillRulesByLeaves 110 = .ok (.iaload, 1) := by decide +kernel
theorem dX0_fillRulesByLeaves_111 : decode cX0_fillRulesByLeaves 111 = .ok (.ior, 1) := by decide +kernel
theorem dX0_fillRulesByLeaves_112 : decode cX0_fillRulesByLeaves 112 = .ok (.iastore, 1) := by decide +kernel
theorem dX0_fillRulesByLeaves_113 : decode cX0_fillRulesByLeaves 113 = .ok (.iinc 3 1, 3) := by decide +kernel
theorem dX0_fillRulesByLeaves_116 : decode cX0_fillRulesByLeaves 116 = .ok (.goto (-83), 3) := by decide +kernel
theorem dX0_fillRulesByLeaves_119 : decode cX0_fillRulesByLeaves 119 = .ok (.return_, 1) := by decide +kernel
theorem dX0_fewestLeavesOut_0 : decode cX0_fewestLeavesOut 0 = .ok (.aload_n 0, 1) := by decide +kernel
theorem dX0_fewestLeavesOut_1 : decode cX0_fewestLeavesOut 1 = .ok (.iload_n 1, 1) := by decide +kernel
theorem dX0_fewestLeavesOut_2 : decode cX0_fewestLeavesOut 2 = .ok (.invokevirtual 138, 3) := by decide +kernel
theorem dX0_fewestLeavesOut_5 : decode cX0_fewestLeavesOut 5 = .ok (.iconst 1, 1) := by decide +kernel
theorem dX0_fewestLeavesOut_6 : decode cX0_fewestLeavesOut 6 = .ok (.aload_n 0, 1) := by decide +kernel
theorem dX0_fewestLeavesOut_7 : decode cX0_fewestLeavesOut 7 = .ok (.getfield 52, 3) := by decide +kernel
theorem dX0_fewestLeavesOut_10 : decode cX0_fewestLeavesOut 10 = .ok (.getfield 76, 3) := by decide +kernel
theorem dX0_fewestLeavesOut_13 : decode cX0_fewestLeavesOut 13 = .ok (.ishl, 1) := by decide +kernel
theorem dX0_fewestLeavesOut_14 : decode cX0_fewestLeavesOut 14 = .ok (.iconst 1, 1) := by decide +kernel
theorem dX0_fewestLeavesOut_15 : decode cX0_fewestLeavesOut 15 = .ok (.isub, 1) := by decide +kernel
theorem dX0_fewestLeavesOut_16 : decode cX0_fewestLeavesOut 16 = .ok (.istore 4, 2) := by decide +kernel
theorem dX0_fewestLeavesOut_18 : decode cX0_fewestLeavesOut 18 = .ok (.iconst (-1), 1) := by decide +kernel
theorem dX0_fewestLeavesOut_19 : decode cX0_fewestLeavesOut 19 = .ok (.istore 5, 2) := by decide +kernel
theorem dX0_fewestLeavesOut_21 : decode cX0_fewestLeavesOut 21 = .ok (.bipush 13, 2) := by decide +kernel
theorem dX0_fewestLeavesOut_23 : decode cX0_fewestLeavesOut 23 = .ok (.istore 6, 2) := by decide +kernel
theorem dX0_fewestLeavesOut_25 : decode cX0_fewestLeavesOut 25 = .ok (.iconst 0, 1) := by decide +kernel
theorem dX0_fewestLeavesOut_26 : decode cX0_fewestLeavesOut 26 = .ok (.istore 7, 2) := by decide +kernel
theorem dX0_fewestLeavesOut_28 : decode cX0_fewestLeavesOut 28 = .ok (.iload 7, 2) := by decide +kernel
theorem dX0_fewestLeavesOut_30 : decode cX0_fewestLeavesOut 30 = .ok (.iload 4, 2) := by decide +kernel
theorem dX0_fewestLeavesOut_32 : decode cX0_fewestLeavesOut 32 = .ok (.if_icmp .gt 56, 3) := by decide +kernel
theorem dX0_fewestLeavesOut_35 : decode cX0_fewestLeavesOut 35 = .ok (.iload 7, 2) := by decide +kernel
theorem dX0_fewestLeavesOut_37 : decode cX0_fewestLeavesOut 37 = .ok (.invokestatic 141, 3) := by decide +kernel
theorem dX0_fewestLeavesOut_40 : decode cX0_fewestLeavesOut 40 = .ok (.istore 8, 2) := by decide +kernel
theorem dX0_fewestLeavesOut_42 : decode cX0_fewestLeavesOut 42 = .ok (.iload 8, 2) := by decide +kernel
theorem dX0_fewestLeavesOut_44 : decode cX0_fewestLeavesOut 44 = .ok (.iload 6, 2) := by decide +kernel
theorem dX0_fewestLeavesOut_46 : decode cX0_fewestLeavesOut 46 = .ok (.if_icmp .ge 36, 3) := by decide +kernel
theorem dX0_fewestLeavesOut_49 : decode cX0_fewestLeavesOut 49 = .ok (.aload_n 0, 1) := by decide +kernel
theorem dX0_fewestLeavesOut_50 : decode cX0_fewestLeavesOut 50 = .ok (.getfield 35, 3) := by decide +kernel
theorem dX0_fewestLeavesOut_53 : decode cX0_fewestLeavesOut 53 = .ok (.aload_n 0, 1) := by decide +kernel
theorem dX0_fewestLeavesOut_54 : decode cX0_fewestLeavesOut 54 = .ok (.getfield 38, 3) := by decide +kernel
theorem dX0_fewestLeavesOut_57 : decode cX0_fewestLeavesOut 57 = .ok (.iload 4, 2) := by decide +kernel
theorem dX0_fewestLeavesOut_59 : decode cX0_fewestLeavesOut 59 = .ok (.iload 7, 2) := by decide +kernel
theorem dX0_fewestLeavesOut_61 : decode cX0_fewestLeavesOut 61 = .ok (.iconst (-1), 1) := by decide +kernel
theorem dX0_fewestLeavesOut_62 : decode cX0_fewestLeavesOut 62 = .ok (.ixor, 1) := by decide +kernel
theorem dX0_fewestLeavesOut_63 : decode cX0_fewestLeavesOut 63 = .ok (.iand, 1) := by decide +kernel
theorem dX0_fewestLeavesOut_64 : decode cX0_fewestLeavesOut 64 = .ok (.iaload, 1) := by decide +kernel
theorem dX0_fewestLeavesOut_65 : decode cX0_fewestLeavesOut 65 = .ok (.iaload, 1) := by decide +kernel
theorem dX0_fewestLeavesOut_66 : decode cX0_fewestLeavesOut 66 = .ok (.iload_n 2, 1) := by decide +kernel
theorem dX0_fewestLeavesOut_67 : decode cX0_fewestLeavesOut 67 = .ok (.iload_n 3, 1) := by decide +kernel
theorem dX0_fewestLeavesOut_68 : decode cX0_fewestLeavesOut 68 = .ok (.ior, 1) := by decide +kernel
theorem dX0_fewestLeavesOut_69 : decode cX0_fewestLeavesOut 69 = .ok (.iand, 1) := by decide +kernel
theorem dX0_fewestLeavesOut_70 : decode cX0_fewestLeavesOut 70 = .ok (.iload_n 2, 1) := by decide +kernel
theorem dX0_fewestLeavesOut_71 : decode cX0_fewestLeavesOut 71 = .ok (.if_icmp .ne 11, 3) := by decide +kernel
theorem dX0_fewestLeavesOut_74 : decode cX0_fewestLeavesOut 74 = .ok (.iload 7, 2) := by decide +kernel
theorem dX0_fewestLeavesOut_76 : decode cX0_fewestLeavesOut 76 = .ok (.istore 5, 2) := by decide +kernel
theorem dX0_fewestLeavesOut_78 : decode cX0_fewestLeavesOut 78 = .ok (.iload 8, 2) := by decide +kernel
theorem dX0_fewestLeavesOut_80 : decode cX0_fewestLeavesOut 80 = .ok (.istore 6, 2) := by decide +kernel
theorem dX0_fewestLeavesOut_82 : decode cX0_fewestLeavesOut 82 = .ok (.iinc 7 1, 3) := by decide +kernel
theorem dX0_fewestLeavesOut_85 : decode cX0_fewestLeavesOut 85 = .ok (.goto (-57), 3) := by decide +kernel
theorem dX0_fewestLeavesOut_88 : decode cX0_fewestLeavesOut 88 = .ok (.iload 5, 2) := by decide +kernel
theorem dX0_fewestLeavesOut_90 : decode cX0_fewestLeavesOut 90 = .ok (.ireturn, 1) := by decide +kernel
theorem dX0_fewestRulesStruck_0 : decode cX0_fewestRulesStruck 0 = .ok (.iconst 1, 1) := by decide +kernel
theorem dX0_fewestRulesStruck_1 : decode cX0_fewestRulesStruck 1 = .ok (.aload_n 0, 1) := by decide +kernel
theorem dX0_fewestRulesStruck_2 : decode cX0_fewestRulesStruck 2 = .ok (.getfield 56, 3) := by decide +kernel
theorem dX0_fewestRulesStruck_5 : decode cX0_fewestRulesStruck 5 = .ok (.getfield 76, 3) := by decide +kernel
theorem dX0_fewestRulesStruck_8 : decode cX0_fewestRulesStruck 8 = .ok (.ishl, 1) := by decide +kernel
theorem dX0_fewestRulesStruck_9 : decode cX0_fewestRulesStruck 9 = .ok (.istore_n 3, 1) := by decide +kernel
theorem dX0_fewestRulesStruck_10 : decode cX0_fewestRulesStruck 10 = .ok (.iconst (-1), 1) := by decide +kernel
theorem dX0_fewestRulesStruck_11 : decode cX0_fewestRulesStruck 11 = .ok (.istore 4, 2) := by decide +kernel
theorem dX0_fewestRulesStruck_13 : decode cX0_fewestRulesStruck 13 = .ok (.bipush 11, 2) := by decide +kernel
theorem dX0_fewestRulesStruck_15 : decode cX0_fewestRulesStruck 15 = .ok (.istore 5, 2) := by decide +kernel
theorem dX0_fewestRulesStruck_17 : decode cX0_fewestRulesStruck 17 = .ok (.iconst 0, 1) := by decide +kernel
theorem dX0_fewestRulesStruck_18 : decode cX0_fewestRulesStruck 18 = .ok (.istore 6, 2) := by decide +kernel
theorem dX0_fewestRulesStruck_20 : decode cX0_fewestRulesStruck 20 = .ok (.iload 6, 2) := by decide +kernel
theorem dX0_fewestRulesStruck_22 : decode cX0_fewestRulesStruck 22 = .ok (.iload_n 3, 1) := by decide +kernel
theorem dX0_fewestRulesStruck_23 : decode cX0_fewestRulesStruck 23 = .ok (.if_icmp .ge 51, 3) := by decide +kernel
theorem dX0_fewestRulesStruck_26 : decode cX0_fewestRulesStruck 26 = .ok (.iload 6, 2) := by decide +kernel
theorem dX0_fewestRulesStruck_28 : decode cX0_fewestRulesStruck 28 = .ok (.invokestatic 141, 3) := by decide +kernel
theorem dX0_fewestRulesStruck_31 : decode cX0_fewestRulesStruck 31 = .ok (.istore 7, 2) := by decide +kernel
theorem dX0_fewestRulesStruck_33 : decode cX0_fewestRulesStruck 33 = .ok (.iload 7, 2) := by decide +kernel
theorem dX0_fewestRulesStruck_35 : decode cX0_fewestRulesStruck 35 = .ok (.iload 5, 2) := by decide +kernel
theorem dX0_fewestRulesStruck_37 : decode cX0_fewestRulesStruck 37 = .ok (.if_icmp .ge 31, 3) := by decide +kernel
theorem dX0_fewestRulesStruck_40 : decode cX0_fewestRulesStruck 40 = .ok (.aload_n 0, 1) := by decide +kernel
theorem dX0_fewestRulesStruck_41 : decode cX0_fewestRulesStruck 41 = .ok (.getfield 35, 3) := by decide +kernel
theorem dX0_fewestRulesStruck_44 : decode cX0_fewestRulesStruck 44 = .ok (.aload_n 0, 1) := by decide +kernel
theorem dX0_fewestRulesStruck_45 : decode cX0_fewestRulesStruck 45 = .ok (.getfield 23, 3) := by decide +kernel
theorem dX0_fewestRulesStruck_48 : decode cX0_fewestRulesStruck 48 = .ok (.iload_n 1, 1) := by decide +kernel
theorem dX0_fewestRulesStruck_49 : decode cX0_fewestRulesStruck 49 = .ok (.iaload, 1) := by decide +kernel
theorem dX0_fewestRulesStruck_50 : decode cX0_fewestRulesStruck 50 = .ok (.iload 6, 2) := by decide +kernel
theorem dX0_fewestRulesStruck_52 : decode cX0_fewestRulesStruck 52 = .ok (.iconst (-1), 1) := by decide +kernel
theorem dX0_fewestRulesStruck_53 : decode cX0_fewestRulesStruck 53 = .ok (.ixor, 1) := by decide +kernel
theorem dX0_fewestRulesStruck_54 : decode cX0_fewestRulesStruck 54 = .ok (.iand, 1) := by decide +kernel
theorem dX0_fewestRulesStruck_55 : decode cX0_fewestRulesStruck 55 = .ok (.iaload, 1) := by decide +kernel
theorem dX0_fewestRulesStruck_56 : decode cX0_fewestRulesStruck 56 = .ok (.iload_n 2, 1) := by decide +kernel
theorem dX0_fewestRulesStruck_57 : decode cX0_fewestRulesStruck 57 = .ok (.if_icmp .ne 11, 3) := by decide +kernel
theorem dX0_fewestRulesStruck_60 : decode cX0_fewestRulesStruck 60 = .ok (.iload 6, 2) := by decide +kernel
theorem dX0_fewestRulesStruck_62 : decode cX0_fewestRulesStruck 62 = .ok (.istore 4, 2) := by decide +kernel
theorem dX0_fewestRulesStruck_64 : decode cX0_fewestRulesStruck 64 = .ok (.iload 7, 2) := by decide +kernel
theorem dX0_fewestRulesStruck_66 : decode cX0_fewestRulesStruck 66 = .ok (.istore 5, 2) := by decide +kernel
theorem dX0_fewestRulesStruck_68 : decode cX0_fewestRulesStruck 68 = .ok (.iinc 6 1, 3) := by decide +kernel
theorem dX0_fewestRulesStruck_71 : decode cX0_fewestRulesStruck 71 = .ok (.goto (-51), 3) := by decide +kernel
theorem dX0_fewestRulesStruck_74 : decode cX0_fewestRulesStruck 74 = .ok (.iload 4, 2) := by decide +kernel
theorem dX0_fewestRulesStruck_76 : decode cX0_fewestRulesStruck 76 = .ok (.ireturn, 1) := by decide +kernel
theorem dX0_leastLeafThatChanges_0 : decode cX0_leastLeafThatChanges 0 = .ok (.iconst 0, 1) := by decide +kernel
theorem dX0_leastLeafThatChanges_1 : decode cX0_leastLeafThatChanges 1 = .ok (.istore_n 3, 1) := by decide +kernel
theorem dX0_leastLeafThatChanges_2 : decode cX0_leastLeafThatChanges 2 = .ok (.iload_n 3, 1) := by decide +kernel
theorem dX0_leastLeafThatChanges_3 : decode cX0_leastLeafThatChanges 3 = .ok (.iconst 3, 1) := by decide +kernel
theorem dX0_leastLeafThatChanges_4 : decode cX0_leastLeafThatChanges 4 = .ok (.if_icmp .ge 69, 3) := by decide +kernel
theorem dX0_leastLeafThatChanges_7 : decode cX0_leastLeafThatChanges 7 = .ok (.iconst 0, 1) := by decide +kernel
theorem dX0_leastLeafThatChanges_8 : decode cX0_leastLeafThatChanges 8 = .ok (.istore 4, 2) := by decide +kernel
theorem dX0_leastLeafThatChanges_10 : decode cX0_leastLeafThatChanges 10 = .ok (.iload 4, 2) := by decide +kernel
theorem dX0_leastLeafThatChanges_12 : decode cX0_leastLeafThatChanges 12 = .ok (.bipush 6, 2) := by decide +kernel
theorem dX0_leastLeafThatChanges_14 : decode cX0_leastLeafThatChanges 14 = .ok (.if_icmp .ge 53, 3) := by decide +kernel
theorem dX0_leastLeafThatChanges_17 : decode cX0_leastLeafThatChanges 17 = .ok (.iconst 0, 1) := by decide +kernel
theorem dX0_leastLeafThatChanges_18 : decode cX0_leastLeafThatChanges 18 = .ok (.istore 5, 2) := by decide +kernel
theorem dX0_leastLeafThatChanges_20 : decode cX0_leastLeafThatChanges 20 = .ok (.iload 5, 2) := by decide +kernel
theorem dX0_leastLeafThatChanges_22 : decode cX0_leastLeafThatChanges 22 = .ok (.bipush 6, 2) := by decide +kernel
theorem dX0_leastLeafThatChanges_24 : decode cX0_leastLeafThatChanges 24 = .ok (.if_icmp .ge 37, 3) := by decide +kernel
theorem dX0_leastLeafThatChanges_27 : decode cX0_leastLeafThatChanges 27 = .ok (.aload_n 0, 1) := by decide +kernel
theorem dX0_leastLeafThatChanges_28 : decode cX0_leastLeafThatChanges 28 = .ok (.iload_n 1, 1) := by decide +kernel
theorem dX0_leastLeafThatChanges_29 : decode cX0_leastLeafThatChanges 29 = .ok (.iload_n 2, 1) := by decide +kernel
theorem dX0_leastLeafThatChanges_30 : decode cX0_leastLeafThatChanges 30 = .ok (.iload_n 3, 1) := by decide +kernel
theorem dX0_leastLeafThatChanges_31 : decode cX0_leastLeafThatChanges 31 = .ok (.iload 5, 2) := by decide +kernel
theorem dX0_leastLeafThatChanges_33 : decode cX0_leastLeafThatChanges 33 = .ok (.iload 4, 2) := by decide +kernel
theorem dX0_leastLeafThatChanges_35 : decode cX0_leastLeafThatChanges 35 = .ok (.invokevirtual 144, 3) := by decide +kernel
theorem dX0_leastLeafThatChanges_38 : decode cX0_leastLeafThatChanges 38 = .ok (.ifCond .eq 17, 3) := by decide +kernel
theorem dX0_leastLeafThatChanges_41 : decode cX0_leastLeafThatChanges 41 = .ok (.bipush 36, 2) := by decide +kernel
theorem dX0_leastLeafThatChanges_43 : decode cX0_leastLeafThatChanges 43 = .ok (.iload_n 3, 1) := by decide +kernel
theorem dX0_leastLeafThatChanges_44 : decode cX0_leastLeafThatChanges 44 = .ok (.imul, 1) := by decide +kernel
theorem dX0_leastLeafThatChanges_45 : decode cX0_leastLeafThatChanges 45 = .ok (.bipush 6, 2) := by decide +kernel
theorem dX0_leastLeafThatChanges_47 : decode cX0_leastLeafThatChanges 47 = .ok (.iload 4, 2) := by decide +kernel
theorem dX0_leastLeafThatChanges_49 : decode cX0_leastLeafThatChanges 49 = .ok (.imul, 1) := by decide +kernel
theorem dX0_leastLeafThatChanges_50 : decode cX0_leastLeafThatChanges 50 = .ok (.iadd, 1) := by decide +kernel
theorem dX0_leastLeafThatChanges_51 : decode cX0_leastLeafThatChanges 51 = .ok (.iload 5, 2) := by decide +kernel
theorem dX0_leastLeafThatChanges_53 : decode cX0_leastLeafThatChanges 53 = .ok (.iadd, 1) := by decide +kernel
theorem dX0_leastLeafThatChanges_54 : decode cX0_leastLeafThatChanges 54 = .ok (.ireturn, 1) := by decide +kernel
theorem dX0_leastLeafThatChanges_55 : decode cX0_leastLeafThatChanges 55 = .ok (.iinc 5 1, 3) := by decide +kernel
theorem dX0_leastLeafThatChanges_58 : decode cX0_leastLeafThatChanges 58 = .ok (.goto (-38), 3) := by decide +kernel
theorem dX0_leastLeafThatChanges_61 : decode cX0_leastLeafThatChanges 61 = .ok (.iinc 4 1, 3) := by decide +kernel
theorem dX0_leastLeafThatChanges_64 : decode cX0_leastLeafThatChanges 64 = .ok (.goto (-54), 3) := by decide +kernel
theorem dX0_leastLeafThatChanges_67 : decode cX0_leastLeafThatChanges 67 = .ok (.iinc 3 1, 3) := by decide +kernel
theorem dX0_leastLeafThatChanges_70 : decode cX0_leastLeafThatChanges 70 = .ok (.goto (-68), 3) := by decide +kernel
theorem dX0_leastLeafThatChanges_73 : decode cX0_leastLeafThatChanges 73 = .ok (.iconst (-1), 1) := by decide +kernel
theorem dX0_leastLeafThatChanges_74 : decode cX0_leastLeafThatChanges 74 = .ok (.ireturn, 1) := by decide +kernel
theorem dX0_changes_0 : decode cX0_changes 0 = .ok (.aload_n 0, 1) := by decide +kernel
theorem dX0_changes_1 : decode cX0_changes 1 = .ok (.iload 4, 2) := by decide +kernel
theorem dX0_changes_3 : decode cX0_changes 3 = .ok (.iload 5, 2) := by decide +kernel
theorem dX0_changes_5 : decode cX0_changes 5 = .ok (.invokevirtual 85, 3) := by decide +kernel
theorem dX0_changes_8 : decode cX0_changes 8 = .ok (.ifCond .eq 5, 3) := by decide +kernel
theorem dX0_changes_11 : decode cX0_changes 11 = .ok (.iconst 0, 1) := by decide +kernel
theorem dX0_changes_12 : decode cX0_changes 12 = .ok (.ireturn, 1) := by decide +kernel
theorem dX0_changes_13 : decode cX0_changes 13 = .ok (.aload_n 0, 1) := by decide +kernel
theorem dX0_changes_14 : decode cX0_changes 14 = .ok (.getfield 23, 3) := by decide +kernel
theorem dX0_changes_17 : decode cX0_changes 17 = .ok (.iload_n 1, 1) := by decide +kernel
theorem dX0_changes_18 : decode cX0_changes 18 = .ok (.iaload, 1) := by decide +kernel
theorem dX0_changes_19 : decode cX0_changes 19 = .ok (.istore 6, 2) := by decide +kernel
theorem dX0_changes_21 : decode cX0_changes 21 = .ok (.iconst 0, 1) := by decide +kernel
theorem dX0_changes_22 : decode cX0_changes 22 = .ok (.istore 7, 2) := by decide +kernel
theorem dX0_changes_24 : decode cX0_changes 24 = .ok (.iload 7, 2) := by decide +kernel
theorem dX0_changes_26 : decode cX0_changes 26 = .ok (.aload_n 0, 1) := by decide +kernel
theorem dX0_changes_27 : decode cX0_changes 27 = .ok (.getfield 52, 3) := by decide +kernel
theorem dX0_changes_30 : decode cX0_changes 30 = .ok (.getfield 76, 3) := by decide +kernel
theorem dX0_changes_33 : decode cX0_changes 33 = .ok (.if_icmp .ge 56, 3) := by decide +kernel
theorem dX0_changes_36 : decode cX0_changes 36 = .ok (.aload_n 0, 1) := by decide +kernel
theorem dX0_changes_37 : decode cX0_changes 37 = .ok (.getfield 11, 3) := by decide +kernel
theorem dX0_changes_40 : decode cX0_changes 40 = .ok (.iload_n 1, 1) := by decide +kernel
theorem dX0_changes_41 : decode cX0_changes 41 = .ok (.aaload, 1) := by decide +kernel
theorem dX0_changes_42 : decode cX0_changes 42 = .ok (.iload 7, 2) := by decide +kernel
theorem dX0_changes_44 : decode cX0_changes 44 = .ok (.iaload, 1) := by decide +kernel
theorem dX0_changes_45 : decode cX0_changes 45 = .ok (.iload 4, 2) := by decide +kernel
theorem dX0_changes_47 : decode cX0_changes 47 = .ok (.if_icmp .ne 19, 3) := by decide +kernel
theorem dX0_changes_50 : decode cX0_changes 50 = .ok (.aload_n 0, 1) := by decide +kernel
theorem dX0_changes_51 : decode cX0_changes 51 = .ok (.getfield 16, 3) := by decide +kernel
theorem dX0_changes_54 : decode cX0_changes 54 = .ok (.iload_n 1, 1) := by decide +kernel
theorem dX0_changes_55 : decode cX0_changes 55 = .ok (.aaload, 1) := by decide +kernel
theorem dX0_changes_56 : decode cX0_changes 56 = .ok (.iload 7, 2) := by decide +kernel
theorem dX0_changes_58 : decode cX0_changes 58 = .ok (.iaload, 1) := by decide +kernel
theorem dX0_changes_59 : decode cX0_changes 59 = .ok (.iload 5, 2) := by decide +kernel
theorem dX0_changes_61 : decode cX0_changes 61 = .ok (.if_icmp .ne 5, 3) := by decide +kernel
theorem dX0_changes_64 : decode cX0_changes 64 = .ok (.iconst 0, 1) := by decide +kernel
theorem dX0_changes_65 : decode cX0_changes 65 = .ok (.ireturn, 1) := by decide +kernel
theorem dX0_changes_66 : decode cX0_changes 66 = .ok (.iload 6, 2) := by decide +kernel
theorem dX0_changes_68 : decode cX0_changes 68 = .ok (.aload_n 0, 1) := by decide +kernel
theorem dX0_changes_69 : decode cX0_changes 69 = .ok (.iload_n 1, 1) := by decide +kernel
theorem dX0_changes_70 : decode cX0_changes 70 = .ok (.iload 7, 2) := by decide +kernel
theorem dX0_changes_72 : decode cX0_changes 72 = .ok (.iload_n 3, 1) := by decide +kernel
theorem dX0_changes_73 : decode cX0_changes 73 = .ok (.iload 4, 2) := by decide +kernel
theorem dX0_changes_75 : decode cX0_changes 75 = .ok (.iload 5, 2) := by decide +kernel
theorem dX0_changes_77 : decode cX0_changes 77 = .ok (.invokevirtual 103, 3) := by decide +kernel
theorem dX0_changes_80 : decode cX0_changes 80 = .ok (.ior, 1) := by decide +kernel
theorem dX0_changes_81 : decode cX0_changes 81 = .ok (.istore 6, 2) := by decide +kernel
theorem dX0_changes_83 : decode cX0_changes 83 = .ok (.iinc 7 1, 3) := by decide +kernel
theorem dX0_changes_86 : decode cX0_changes 86 = .ok (.goto (-62), 3) := by decide +kernel
theorem dX0_changes_89 : decode cX0_changes 89 = .ok (.aload_n 0, 1) := by decide +kernel
theorem dX0_changes_90 : decode cX0_changes 90 = .ok (.getfield 35, 3) := by decide +kernel
theorem dX0_changes_93 : decode cX0_changes 93 = .ok (.iload 6, 2) := by decide +kernel
theorem dX0_changes_95 : decode cX0_changes 95 = .ok (.iaload, 1) := by decide +kernel
theorem dX0_changes_96 : decode cX0_changes 96 = .ok (.aload_n 0, 1) := by decide +kernel
theorem dX0_changes_97 : decode cX0_changes 97 = .ok (.getfield 26, 3) := by decide +kernel
theorem dX0_changes_100 : decode cX0_changes 100 = .ok (.iload_n 1, 1) := by decide +kernel
theorem dX0_changes_101 : decode cX0_changes 101 = .ok (.iaload, 1) := by decide +kernel
theorem dX0_changes_102 : decode cX0_changes 102 = .ok (.ixor, 1) := by decide +kernel
theorem dX0_changes_103 : decode cX0_changes 103 = .ok (.iload_n 2, 1) := by decide +kernel
theorem dX0_changes_104 : decode cX0_changes 104 = .ok (.ishr, 1) := by decide +kernel
theorem dX0_changes_105 : decode cX0_changes 105 = .ok (.iconst 1, 1) := by decide +kernel
theorem dX0_changes_106 : decode cX0_changes 106 = .ok (.iand, 1) := by decide +kernel
theorem dX0_changes_107 : decode cX0_changes 107 = .ok (.iconst 1, 1) := by decide +kernel
theorem dX0_changes_108 : decode cX0_changes 108 = .ok (.if_icmp .ne 7, 3) := by decide +kernel
theorem dX0_changes_111 : decode cX0_changes 111 = .ok (.iconst 1, 1) := by decide +kernel
theorem dX0_changes_112 : decode cX0_changes 112 = .ok (.goto 4, 3) := by decide +kernel
theorem dX0_changes_115 : decode cX0_changes 115 = .ok (.iconst 0, 1) := by decide +kernel
theorem dX0_changes_116 : decode cX0_changes 116 = .ok (.ireturn, 1) := by decide +kernel
theorem dX0_turnsThatHold_0 : decode cX0_turnsThatHold 0 = .ok (.iconst 0, 1) := by decide +kernel
theorem dX0_turnsThatHold_1 : decode cX0_turnsThatHold 1 = .ok (.istore_n 2, 1) := by decide +kernel
theorem dX0_turnsThatHold_2 : decode cX0_turnsThatHold 2 = .ok (.iload_n 2, 1) := by decide +kernel
theorem dX0_turnsThatHold_3 : decode cX0_turnsThatHold 3 = .ok (.iconst 4, 1) := by decide +kernel
theorem dX0_turnsThatHold_4 : decode cX0_turnsThatHold 4 = .ok (.if_icmp .ge 33, 3) := by decide +kernel
theorem dX0_turnsThatHold_7 : decode cX0_turnsThatHold 7 = .ok (.aload_n 0, 1) := by decide +kernel
theorem dX0_turnsThatHold_8 : decode cX0_turnsThatHold 8 = .ok (.iload_n 2, 1) := by decide +kernel
theorem dX0_turnsThatHold_9 : decode cX0_turnsThatHold 9 = .ok (.iload_n 1, 1) := by decide +kernel
theorem dX0_turnsThatHold_10 : decode cX0_turnsThatHold 10 = .ok (.invokevirtual 148, 3) := by decide +kernel
theorem dX0_turnsThatHold_13 : decode cX0_turnsThatHold 13 = .ok (.ifCond .eq 18, 3) := by decide +kernel
theorem dX0_turnsThatHold_16 : decode cX0_turnsThatHold 16 = .ok (.aload_n 0, 1) := by decide +kernel
theorem dX0_turnsThatHold_17 : decode cX0_turnsThatHold 17 = .ok (.iload_n 2, 1) := by decide +kernel
theorem dX0_turnsThatHold_18 : decode cX0_turnsThatHold 18 = .ok (.iconst 1, 1) := by decide +kernel
theorem dX0_turnsThatHold_19 : decode cX0_turnsThatHold 19 = .ok (.iadd, 1) := by decide +kernel
theorem dX0_turnsThatHold_20 : decode cX0_turnsThatHold 20 = .ok (.iconst 4, 1) := by decide +kernel
theorem dX0_turnsThatHold_21 : decode cX0_turnsThatHold 21 = .ok (.irem, 1) := by decide +kernel
theorem dX0_turnsThatHold_22 : decode cX0_turnsThatHold 22 = .ok (.iload_n 1, 1) := by decide +kernel
theorem dX0_turnsThatHold_23 : decode cX0_turnsThatHold 23 = .ok (.invokevirtual 148, 3) := by decide +kernel
theorem dX0_turnsThatHold_26 : decode cX0_turnsThatHold 26 = .ok (.ifCond .eq 5, 3) := by decide +kernel
theorem dX0_turnsThatHold_29 : decode cX0_turnsThatHold 29 = .ok (.iload_n 2, 1) := by decide +kernel
theorem dX0_turnsThatHold_30 : decode cX0_turnsThatHold 30 = .ok (.ireturn, 1) := by decide +kernel
theorem dX0_turnsThatHold_31 : decode cX0_turnsThatHold 31 = .ok (.iinc 2 1, 3) := by decide +kernel
theorem dX0_turnsThatHold_34 : decode cX0_turnsThatHold 34 = .ok (.goto (-32), 3) := by decide +kernel
theorem dX0_turnsThatHold_37 : decode cX0_turnsThatHold 37 = .ok (.iconst (-1), 1) := by decide +kernel
theorem dX0_turnsThatHold_38 : decode cX0_turnsThatHold 38 = .ok (.ireturn, 1) := by decide +kernel
theorem dX0_inForceHad_0 : decode cX0_inForceHad 0 = .ok (.iload_n 1, 1) := by decide +kernel
theorem dX0_inForceHad_1 : decode cX0_inForceHad 1 = .ok (.lookupswitch 52 #[(0, 27), (1, 45)], 27) := by decide +kernel
theorem dX0_inForceHad_28 : decode cX0_inForceHad 28 = .ok (.aload_n 0, 1) := by decide +kernel
theorem dX0_inForceHad_29 : decode cX0_inForceHad 29 = .ok (.getfield 35, 3) := by decide +kernel
theorem dX0_inForceHad_32 : decode cX0_inForceHad 32 = .ok (.aload_n 0, 1) := by decide +kernel
theorem dX0_inForceHad_33 : decode cX0_inForceHad 33 = .ok (.getfield 23, 3) := by decide +kernel
theorem dX0_inForceHad_36 : decode cX0_inForceHad 36 = .ok (.iload_n 3, 1) := by decide +kernel
theorem dX0_inForceHad_37 : decode cX0_inForceHad 37 = .ok (.iaload, 1) := by decide +kernel
theorem dX0_inForceHad_38 : decode cX0_inForceHad 38 = .ok (.iconst 1, 1) := by decide +kernel
theorem dX0_inForceHad_39 : decode cX0_inForceHad 39 = .ok (.iload_n 2, 1) := by decide +kernel
theorem dX0_inForceHad_40 : decode cX0_inForceHad 40 = .ok (.ishl, 1) := by decide +kernel
theorem dX0_inForceHad_41 : decode cX0_inForceHad 41 = .ok (.iconst (-1), 1) := by decide +kernel
theorem dX0_inForceHad_42 : decode cX0_inForceHad 42 = .ok (.ixor, 1) := by decide +kernel
theorem dX0_inForceHad_43 : decode cX0_inForceHad 43 = .ok (.iand, 1) := by decide +kernel
theorem dX0_inForceHad_44 : decode cX0_inForceHad 44 = .ok (.iaload, 1) := by decide +kernel
theorem dX0_inForceHad_45 : decode cX0_inForceHad 45 = .ok (.ireturn, 1) := by decide +kernel
theorem dX0_inForceHad_46 : decode cX0_inForceHad 46 = .ok (.aload_n 0, 1) := by decide +kernel
theorem dX0_inForceHad_47 : decode cX0_inForceHad 47 = .ok (.iload_n 3, 1) := by decide +kernel
theorem dX0_inForceHad_48 : decode cX0_inForceHad 48 = .ok (.iload_n 2, 1) := by decide +kernel
theorem dX0_inForceHad_49 : decode cX0_inForceHad 49 = .ok (.invokevirtual 151, 3) := by decide +kernel
theorem dX0_inForceHad_52 : decode cX0_inForceHad 52 = .ok (.ireturn, 1) := by decide +kernel
theorem dX0_inForceHad_53 : decode cX0_inForceHad 53 = .ok (.aload_n 0, 1) := by decide +kernel
theorem dX0_inForceHad_54 : decode cX0_inForceHad 54 = .ok (.iload_n 3, 1) := by decide +kernel
theorem dX0_inForceHad_55 : decode cX0_inForceHad 55 = .ok (.iload_n 2, 1) := by decide +kernel
theorem dX0_inForceHad_56 : decode cX0_inForceHad 56 = .ok (.invokevirtual 154, 3) := by decide +kernel
theorem dX0_inForceHad_59 : decode cX0_inForceHad 59 = .ok (.ireturn, 1) := by decide +kernel
theorem dX0_inForceWithoutLeaf_0 : decode cX0_inForceWithoutLeaf 0 = .ok (.iconst 0, 1) := by decide +kernel
theorem dX0_inForceWithoutLeaf_1 : decode cX0_inForceWithoutLeaf 1 = .ok (.istore_n 3, 1) := by decide +kernel
theorem dX0_inForceWithoutLeaf_2 : decode cX0_inForceWithoutLeaf 2 = .ok (.iconst 0, 1) := by decide +kernel
theorem dX0_inForceWithoutLeaf_3 : decode cX0_inForceWithoutLeaf 3 = .ok (.istore 4, 2) := by decide +kernel
theorem dX0_inForceWithoutLeaf_5 : decode cX0_inForceWithoutLeaf 5 = .ok (.iload 4, 2) := by decide +kernel
theorem dX0_inForceWithoutLeaf_7 : decode cX0_inForceWithoutLeaf 7 = .ok (.aload_n 0, 1) := by decide +kernel
theorem dX0_inForceWithoutLeaf_8 : decode cX0_inForceWithoutLeaf 8 = .ok (.getfield 52, 3) := by decide +kernel
theorem dX0_inForceWithoutLeaf_11 : decode cX0_inForceWithoutLeaf 11 = .ok (.getfield 76, 3) := by decide +kernel
theorem dX0_inForceWithoutLeaf_14 : decode cX0_inForceWithoutLeaf 14 = .ok (.if_icmp .ge 63, 3) := by decide +kernel
theorem dX0_inForceWithoutLeaf_17 : decode cX0_inForceWithoutLeaf 17 = .ok (.iload 4, 2) := by decide +kernel
theorem dX0_inForceWithoutLeaf_19 : decode cX0_inForceWithoutLeaf 19 = .ok (.iconst 1, 1) := by decide +kernel
theorem dX0_inForceWithoutLeaf_20 : decode cX0_inForceWithoutLeaf 20 = .ok (.iadd, 1) := by decide +kernel
theorem dX0_inForceWithoutLeaf_21 : decode cX0_inForceWithoutLeaf 21 = .ok (.istore 5, 2) := by decide +kernel
theorem dX0_inForceWithoutLeaf_23 : decode cX0_inForceWithoutLeaf 23 = .ok (.iload 5, 2) := by decide +kernel
theorem dX0_inForceWithoutLeaf_25 : decode cX0_inForceWithoutLeaf 25 = .ok (.aload_n 0, 1) := by decide +kernel
theorem dX0_inForceWithoutLeaf_26 : decode cX0_inForceWithoutLeaf 26 = .ok (.getfield 52, 3) := by decide +kernel
theorem dX0_inForceWithoutLeaf_29 : decode cX0_inForceWithoutLeaf 29 = .ok (.getfield 76, 3) := by decide +kernel
theorem dX0_inForceWithoutLeaf_32 : decode cX0_inForceWithoutLeaf 32 = .ok (.if_icmp .ge 39, 3) := by decide +kernel
theorem dX0_inForceWithoutLeaf_35 : decode cX0_inForceWithoutLeaf 35 = .ok (.iload 4, 2) := by decide +kernel
theorem dX0_inForceWithoutLeaf_37 : decode cX0_inForceWithoutLeaf 37 = .ok (.iload_n 2, 1) := by decide +kernel
theorem dX0_inForceWithoutLeaf_38 : decode cX0_inForceWithoutLeaf 38 = .ok (.if_icmp .eq 27, 3) := by decide +kernel
theorem dX0_inForceWithoutLeaf_41 : decode cX0_inForceWithoutLeaf 41 = .ok (.iload 5, 2) := by decide +kernel
theorem dX0_inForceWithoutLeaf_43 : decode cX0_inForceWithoutLeaf 43 = .ok (.iload_n 2, 1) := by decide +kernel
theorem dX0_inForceWithoutLeaf_44 : decode cX0_inForceWithoutLeaf 44 = .ok (.if_icmp .eq 21, 3) := by decide +kernel
theorem dX0_inForceWithoutLeaf_47 : decode cX0_inForceWithoutLeaf 47 = .ok (.iload_n 3, 1) := by decide +kernel
theorem dX0_inForceWithoutLeaf_48 : decode cX0_inForceWithoutLeaf 48 = .ok (.aload_n 0, 1) := by decide +kernel
theorem dX0_inForceWithoutLeaf_49 : decode cX0_inForceWithoutLeaf 49 = .ok (.getfield 29, 3) := by decide +kernel
theorem dX0_inForceWithoutLeaf_52 : decode cX0_inForceWithoutLeaf 52 = .ok (.iload_n 1, 1) := by decide +kernel
theorem dX0_inForceWithoutLeaf_53 : decode cX0_inForceWithoutLeaf 53 = .ok (.aaload, 1) := by decide +kernel
theorem dX0_inForceWithoutLeaf_54 : decode cX0_inForceWithoutLeaf 54 = .ok (.iload 4, 2) := by decide +kernel
theorem dX0_inForceWithoutLeaf_56 : decode cX0_inForceWithoutLeaf 56 = .ok (.bipush 12, 2) := by decide +kernel
theorem dX0_inForceWithoutLeaf_58 : decode cX0_inForceWithoutLeaf 58 = .ok (.imul, 1) := by decide +kernel
theorem dX0_inForceWithoutLeaf_59 : decode cX0_inForceWithoutLeaf 59 = .ok (.iload 5, 2) := by decide +kernel
theorem dX0_inForceWithoutLeaf_61 : decode cX0_inForceWithoutLeaf 61 = .ok (.iadd, 1) := by decide +kernel
theorem dX0_inForceWithoutLeaf_62 : decode cX0_inForceWithoutLeaf 62 = .ok (.iaload, 1) := by decide +kernel
theorem dX0_inForceWithoutLeaf_63 : decode cX0_inForceWithoutLeaf 63 = .ok (.ior, 1) := by decide +kernel
theorem dX0_inForceWithoutLeaf_64 : decode cX0_inForceWithoutLeaf 64 = .ok (.istore_n 3, 1) := by decide +kernel
theorem dX0_inForceWithoutLeaf_65 : decode cX0_inForceWithoutLeaf 65 = .ok (.iinc 5 1, 3) := by decide +kernel
theorem dX0_inForceWithoutLeaf_68 : decode cX0_inForceWithoutLeaf 68 = .ok (.goto (-45), 3) := by decide +kernel
theorem dX0_inForceWithoutLeaf_71 : decode cX0_inForceWithoutLeaf 71 = .ok (.iinc 4 1, 3) := by decide +kernel
theorem dX0_inForceWithoutLeaf_74 : decode cX0_inForceWithoutLeaf 74 = .ok (.goto (-69), 3) := by decide +kernel
theorem dX0_inForceWithoutLeaf_77 : decode cX0_inForceWithoutLeaf 77 = .ok (.aload_n 0, 1) := by decide +kernel
theorem dX0_inForceWithoutLeaf_78 : decode cX0_inForceWithoutLeaf 78 = .ok (.getfield 35, 3) := by decide +kernel
theorem dX0_inForceWithoutLeaf_81 : decode cX0_inForceWithoutLeaf 81 = .ok (.iload_n 3, 1) := by decide +kernel
theorem dX0_inForceWithoutLeaf_82 : decode cX0_inForceWithoutLeaf 82 = .ok (.iaload, 1) := by decide +kernel
theorem dX0_inForceWithoutLeaf_83 : decode cX0_inForceWithoutLeaf 83 = .ok (.ireturn, 1) := by decide +kernel
theorem dX0_inForceWithTurnedRule_0 : decode cX0_inForceWithTurnedRule 0 = .ok (.aload_n 0, 1) := by decide +kernel
theorem dX0_inForceWithTurnedRule_1 : decode cX0_inForceWithTurnedRule 1 = .ok (.iload_n 1, 1) := by decide +kernel
theorem dX0_inForceWithTurnedRule_2 : decode cX0_inForceWithTurnedRule 2 = .ok (.iload_n 2, 1) := by decide +kernel
theorem dX0_inForceWithTurnedRule_3 : decode cX0_inForceWithTurnedRule 3 = .ok (.invokevirtual 120, 3) := by decide +kernel
theorem dX0_inForceWithTurnedRule_6 : decode cX0_inForceWithTurnedRule 6 = .ok (.ifCond .ne 10, 3) := by decide +kernel
theorem dX0_inForceWithTurnedRule_9 : decode cX0_inForceWithTurnedRule 9 = .ok (.aload_n 0, 1) := by decide +kernel
theorem dX0_inForceWithTurnedRule_10 : decode cX0_inForceWithTurnedRule 10 = .ok (.getfield 26, 3) := by decide +kernel
theorem dX0_inForceWithTurnedRule_13 : decode cX0_inForceWithTurnedRule 13 = .ok (.iload_n 1, 1) := by decide +kernel
theorem dX0_inForceWithTurnedRule_14 : decode cX0_inForceWithTurnedRule 14 = .ok (.iaload, 1) := by decide +kernel
theorem dX0_inForceWithTurnedRule_15 : decode cX0_inForceWithTurnedRule 15 = .ok (.ireturn, 1) := by decide +kernel
theorem dX0_inForceWithTurnedRule_16 : decode cX0_inForceWithTurnedRule 16 = .ok (.iload_n 2, 1) := by decide +kernel
theorem dX0_inForceWithTurnedRule_17 : decode cX0_inForceWithTurnedRule 17 = .ok (.iconst 1, 1) := by decide +kernel
theorem dX0_inForceWithTurnedRule_18 : decode cX0_inForceWithTurnedRule 18 = .ok (.iadd, 1) := by decide +kernel
theorem dX0_inForceWithTurnedRule_19 : decode cX0_inForceWithTurnedRule 19 = .ok (.istore_n 3, 1) := by decide +kernel
theorem dX0_inForceWithTurnedRule_20 : decode cX0_inForceWithTurnedRule 20 = .ok (.iload_n 3, 1) := by decide +kernel
theorem dX0_inForceWithTurnedRule_21 : decode cX0_inForceWithTurnedRule 21 = .ok (.aload_n 0, 1) := by decide +kernel
theorem dX0_inForceWithTurnedRule_22 : decode cX0_inForceWithTurnedRule 22 = .ok (.getfield 56, 3) := by decide +kernel
theorem dX0_inForceWithTurnedRule_25 : decode cX0_inForceWithTurnedRule 25 = .ok (.getfield 76, 3) := by decide +kernel
theorem dX0_inForceWithTurnedRule_28 : decode cX0_inForceWithTurnedRule 28 = .ok (.if_icmp .ge 35, 3) := by decide +kernel
theorem dX0_inForceWithTurnedRule_31 : decode cX0_inForceWithTurnedRule 31 = .ok (.aload_n 0, 1) := by decide +kernel
theorem dX0_inForceWithTurnedRule_32 : decode cX0_inForceWithTurnedRule 32 = .ok (.iload_n 1, 1) := by decide +kernel
theorem dX0_inForceWithTurnedRule_33 : decode cX0_inForceWithTurnedRule 33 = .ok (.iload_n 3, 1) := by decide +kernel
theorem dX0_inForceWithTurnedRule_34 : decode cX0_inForceWithTurnedRule 34 = .ok (.invokevirtual 120, 3) := by decide +kernel
theorem dX0_inForceWithTurnedRule_37 : decode cX0_inForceWithTurnedRule 37 = .ok (.ifCond .eq 20, 3) := by decide +kernel
theorem dX0_inForceWithTurnedRule_40 : decode cX0_inForceWithTurnedRule 40 = .ok (.aload_n 0, 1) := by decide +kernel
theorem dX0_inForceWithTurnedRule_41 : decode cX0_inForceWithTurnedRule 41 = .ok (.iload_n 2, 1) := by decide +kernel
theorem dX0_inForceWithTurnedRule_42 : decode cX0_inForceWithTurnedRule 42 = .ok (.iload_n 3, 1) := by decide +kernel
theorem dX0_inForceWithTurnedRule_43 : decode cX0_inForceWithTurnedRule 43 = .ok (.iconst 4, 1) := by decide +kernel
theorem dX0_inForceWithTurnedRule_44 : decode cX0_inForceWithTurnedRule 44 = .ok (.invokevirtual 126, 3) := by decide +kernel
theorem dX0_inForceWithTurnedRule_47 : decode cX0_inForceWithTurnedRule 47 = .ok (.ifCond .eq 10, 3) := by decide +kernel
theorem dX0_inForceWithTurnedRule_50 : decode cX0_inForceWithTurnedRule 50 = .ok (.aload_n 0, 1) := by decide +kernel
theorem dX0_inForceWithTurnedRule_51 : decode cX0_inForceWithTurnedRule 51 = .ok (.getfield 26, 3) := by decide +kernel
theorem dX0_inForceWithTurnedRule_54 : decode cX0_inForceWithTurnedRule 54 = .ok (.iload_n 1, 1) := by decide +kernel
theorem dX0_inForceWithTurnedRule_55 : decode cX0_inForceWithTurnedRule 55 = .ok (.iaload, 1) := by decide +kernel
theorem dX0_inForceWithTurnedRule_56 : decode cX0_inForceWithTurnedRule 56 = .ok (.ireturn, 1) := by decide +kernel
theorem dX0_inForceWithTurnedRule_57 : decode cX0_inForceWithTurnedRule 57 = .ok (.iinc 3 1, 3) := by decide +kernel
theorem dX0_inForceWithTurnedRule_60 : decode cX0_inForceWithTurnedRule 60 = .ok (.goto (-40), 3) := by decide +kernel
theorem dX0_inForceWithTurnedRule_63 : decode cX0_inForceWithTurnedRule 63 = .ok (.aload_n 0, 1) := by decide +kernel
theorem dX0_inForceWithTurnedRule_64 : decode cX0_inForceWithTurnedRule 64 = .ok (.getfield 26, 3) := by decide +kernel
theorem dX0_inForceWithTurnedRule_67 : decode cX0_inForceWithTurnedRule 67 = .ok (.iload_n 1, 1) := by decide +kernel
theorem dX0_inForceWithTurnedRule_68 : decode cX0_inForceWithTurnedRule 68 = .ok (.iaload, 1) := by decide +kernel
theorem dX0_inForceWithTurnedRule_69 : decode cX0_inForceWithTurnedRule 69 = .ok (.iconst 1, 1) := by decide +kernel
theorem dX0_inForceWithTurnedRule_70 : decode cX0_inForceWithTurnedRule 70 = .ok (.aload_n 0, 1) := by decide +kernel
theorem dX0_inForceWithTurnedRule_71 : decode cX0_inForceWithTurnedRule 71 = .ok (.getfield 56, 3) := by decide +kernel
theorem dX0_inForceWithTurnedRule_74 : decode cX0_inForceWithTurnedRule 74 = .ok (.iload_n 2, 1) := by decide +kernel
theorem dX0_inForceWithTurnedRule_75 : decode cX0_inForceWithTurnedRule 75 = .ok (.iconst 4, 1) := by decide +kernel
theorem dX0_inForceWithTurnedRule_76 : decode cX0_inForceWithTurnedRule 76 = .ok (.invokevirtual 81, 3) := by decide +kernel
theorem dX0_inForceWithTurnedRule_79 : decode cX0_inForceWithTurnedRule 79 = .ok (.ishl, 1) := by decide +kernel
theorem dX0_inForceWithTurnedRule_80 : decode cX0_inForceWithTurnedRule 80 = .ok (.ixor, 1) := by decide +kernel
theorem dX0_inForceWithTurnedRule_81 : decode cX0_inForceWithTurnedRule 81 = .ok (.ireturn, 1) := by decide +kernel
theorem dX0_chanceAbove_0 : decode cX0_chanceAbove 0 = .ok (.aload_n 0, 1) := by decide +kernel
theorem dX0_chanceAbove_1 : decode cX0_chanceAbove 1 = .ok (.iload_n 2, 1) := by decide +kernel
theorem dX0_chanceAbove_2 : decode cX0_chanceAbove 2 = .ok (.iload_n 3, 1) := by decide +kernel
theorem dX0_chanceAbove_3 : decode cX0_chanceAbove 3 = .ok (.invokevirtual 157, 3) := by decide +kernel
theorem dX0_chanceAbove_6 : decode cX0_chanceAbove 6 = .ok (.lconst 0, 1) := by decide +kernel
theorem dX0_chanceAbove_7 : decode cX0_chanceAbove 7 = .ok (.lstore 4, 2) := by decide +kernel
theorem dX0_chanceAbove_9 : decode cX0_chanceAbove 9 = .ok (.iconst 0, 1) := by decide +kernel
theorem dX0_chanceAbove_10 : decode cX0_chanceAbove 10 = .ok (.istore 6, 2) := by decide +kernel
theorem dX0_chanceAbove_12 : decode cX0_chanceAbove 12 = .ok (.iload 6, 2) := by decide +kernel
theorem dX0_chanceAbove_14 : decode cX0_chanceAbove 14 = .ok (.aload_n 0, 1) := by decide +kernel
theorem dX0_chanceAbove_15 : decode cX0_chanceAbove 15 = .ok (.getfield 52, 3) := by decide +kernel
theorem dX0_chanceAbove_18 : decode cX0_chanceAbove 18 = .ok (.getfield 76, 3) := by decide +kernel
theorem dX0_chanceAbove_21 : decode cX0_chanceAbove 21 = .ok (.if_icmp .gt 49, 3) := by decide +kernel
theorem dX0_chanceAbove_24 : decode cX0_chanceAbove 24 = .ok (.lload 4, 2) := by decide +kernel
theorem dX0_chanceAbove_26 : decode cX0_chanceAbove 26 = .ok (.aload_n 0, 1) := by decide +kernel
theorem dX0_chanceAbove_27 : decode cX0_chanceAbove 27 = .ok (.getfield 45, 3) := by decide +kernel
theorem dX0_chanceAbove_30 : decode cX0_chanceAbove 30 = .ok (.iload 6, 2) := by decide +kernel
theorem dX0_chanceAbove_32 : decode cX0_chanceAbove 32 = .ok (.iaload, 1) := by decide +kernel
theorem dX0_chanceAbove_33 : decode cX0_chanceAbove 33 = .ok (.i2l, 1) := by decide +kernel
theorem dX0_chanceAbove_34 : decode cX0_chanceAbove 34 = .ok (.bipush 16, 2) := by decide +kernel
theorem dX0_chanceAbove_36 : decode cX0_chanceAbove 36 = .ok (.iload_n 1, 1) := by decide +kernel
theorem dX0_chanceAbove_37 : decode cX0_chanceAbove 37 = .ok (.isub, 1) := by decide +kernel
theorem dX0_chanceAbove_38 : decode cX0_chanceAbove 38 = .ok (.i2l, 1) := by decide +kernel
theorem dX0_chanceAbove_39 : decode cX0_chanceAbove 39 = .ok (.iload 6, 2) := by decide +kernel
theorem dX0_chanceAbove_41 : decode cX0_chanceAbove 41 = .ok (.invokestatic 161, 3) := by decide +kernel
theorem dX0_chanceAbove_44 : decode cX0_chanceAbove 44 = .ok (.lmul, 1) := by decide +kernel
theorem dX0_chanceAbove_45 : decode cX0_chanceAbove 45 = .ok (.iload_n 1, 1) := by decide +kernel
theorem dX0_chanceAbove_46 : decode cX0_chanceAbove 46 = .ok (.i2l, 1) := by decide +kernel
theorem dX0_chanceAbove_47 : decode cX0_chanceAbove 47 = .ok (.aload_n 0, 1) := by decide +kernel
theorem dX0_chanceAbove_48 : decode cX0_chanceAbove 48 = .ok (.getfield 52, 3) := by decide +kernel
theorem dX0_chanceAbove_51 : decode cX0_chanceAbove 51 = .ok (.getfield 76, 3) := by decide +kernel
theorem dX0_chanceAbove_54 : decode cX0_chanceAbove 54 = .ok (.iload 6, 2) := by decide +kernel
theorem dX0_chanceAbove_56 : decode cX0_chanceAbove 56 = .ok (.isub, 1) := by decide +kernel
theorem dX0_chanceAbove_57 : decode cX0_chanceAbove 57 = .ok (.invokestatic 161, 3) := by decide +kernel
theorem dX0_chanceAbove_60 : decode cX0_chanceAbove 60 = .ok (.lmul, 1) := by decide +kernel
theorem dX0_chanceAbove_61 : decode cX0_chanceAbove 61 = .ok (.ladd, 1) := by decide +kernel
theorem dX0_chanceAbove_62 : decode cX0_chanceAbove 62 = .ok (.lstore 4, 2) := by decide +kernel
theorem dX0_chanceAbove_64 : decode cX0_chanceAbove 64 = .ok (.iinc 6 1, 3) := by decide +kernel
theorem dX0_chanceAbove_67 : decode cX0_chanceAbove 67 = .ok (.goto (-55), 3) := by decide +kernel
theorem dX0_chanceAbove_70 : decode cX0_chanceAbove 70 = .ok (.lload 4, 2) := by decide +kernel
theorem dX0_chanceAbove_72 : decode cX0_chanceAbove 72 = .ok (.lreturn, 1) := by decide +kernel
theorem dX0_countChoices_0 : decode cX0_countChoices 0 = .ok (.aload_n 0, 1) := by decide +kernel
theorem dX0_countChoices_1 : decode cX0_countChoices 1 = .ok (.iload_n 1, 1) := by decide +kernel
theorem dX0_countChoices_2 : decode cX0_countChoices 2 = .ok (.invokevirtual 138, 3) := by decide +kernel
theorem dX0_countChoices_5 : decode cX0_countChoices 5 = .ok (.iconst 0, 1) := by decide +kernel
theorem dX0_countChoices_6 : decode cX0_countChoices 6 = .ok (.istore_n 3, 1) := by decide +kernel
theorem dX0_countChoices_7 : decode cX0_countChoices 7 = .ok (.iload_n 3, 1) := by decide +kernel
theorem dX0_countChoices_8 : decode cX0_countChoices 8 = .ok (.bipush 12, 2) := by decide +kernel
theorem dX0_countChoices_10 : decode cX0_countChoices 10 = .ok (.if_icmp .gt 16, 3) := by decide +kernel
theorem dX0_countChoices_13 : decode cX0_countChoices 13 = .ok (.aload_n 0, 1) := by decide +kernel
theorem dX0_countChoices_14 : decode cX0_countChoices 14 = .ok (.getfield 45, 3) := by decide +kernel
theorem dX0_countChoices_17 : decode cX0_countChoices 17 = .ok (.iload_n 3, 1) := by decide +kernel
theorem dX0_countChoices_18 : decode cX0_countChoices 18 = .ok (.iconst 0, 1) := by decide +kernel
theorem dX0_countChoices_19 : decode cX0_countChoices 19 = .ok (.iastore, 1) := by decide +kernel
theorem dX0_countChoices_20 : decode cX0_countChoices 20 = .ok (.iinc 3 1, 3) := by decide +kernel
theorem dX0_countChoices_23 : decode cX0_countChoices 23 = .ok (.goto (-16), 3) := by decide +kernel
theorem dX0_countChoices_26 : decode cX0_countChoices 26 = .ok (.iconst 1, 1) := by decide +kernel
theorem dX0_countChoices_27 : decode cX0_countChoices 27 = .ok (.aload_n 0, 1) := by decide +kernel
theorem dX0_countChoices_28 : decode cX0_countChoices 28 = .ok (.getfield 52, 3) := by decide +kernel
theorem dX0_countChoices_31 : decode cX0_countChoices 31 = .ok (.getfield 76, 3) := by decide +kernel
theorem dX0_countChoices_34 : decode cX0_countChoices 34 = .ok (.ishl, 1) := by decide +kernel
theorem dX0_countChoices_35 : decode cX0_countChoices 35 = .ok (.istore_n 3, 1) := by decide +kernel
theorem dX0_countChoices_36 : decode cX0_countChoices 36 = .ok (.iconst 0, 1) := by decide +kernel
theorem dX0_countChoices_37 : decode cX0_countChoices 37 = .ok (.istore 4, 2) := by decide +kernel
theorem dX0_countChoices_39 : decode cX0_countChoices 39 = .ok (.iload 4, 2) := by decide +kernel
theorem dX0_countChoices_41 : decode cX0_countChoices 41 = .ok (.iload_n 3, 1) := by decide +kernel
theorem dX0_countChoices_42 : decode cX0_countChoices 42 = .ok (.if_icmp .ge 38, 3) := by decide +kernel
theorem dX0_countChoices_45 : decode cX0_countChoices 45 = .ok (.aload_n 0, 1) := by decide +kernel
theorem dX0_countChoices_46 : decode cX0_countChoices 46 = .ok (.getfield 45, 3) := by decide +kernel
theorem dX0_countChoices_49 : decode cX0_countChoices 49 = .ok (.iload 4, 2) := by decide +kernel
theorem dX0_countChoices_51 : decode cX0_countChoices 51 = .ok (.invokestatic 141, 3) := by decide +kernel
theorem dX0_countChoices_54 : decode cX0_countChoices 54 = .ok (.dup2, 1) := by decide +kernel
theorem dX0_countChoices_55 : decode cX0_countChoices 55 = .ok (.iaload, 1) := by decide +kernel
theorem dX0_countChoices_56 : decode cX0_countChoices 56 = .ok (.aload_n 0, 1) := by decide +kernel
theorem dX0_countChoices_57 : decode cX0_countChoices 57 = .ok (.getfield 35, 3) := by decide +kernel
theorem dX0_countChoices_60 : decode cX0_countChoices 60 = .ok (.aload_n 0, 1) := by decide +kernel
theorem dX0_countChoices_61 : decode cX0_countChoices 61 = .ok (.getfield 38, 3) := by decide +kernel
theorem dX0_countChoices_64 : decode cX0_countChoices 64 = .ok (.iload 4, 2) := by decide +kernel
theorem dX0_countChoices_66 : decode cX0_countChoices 66 = .ok (.iaload, 1) := by decide +kernel
theorem dX0_countChoices_67 : decode cX0_countChoices 67 = .ok (.iaload, 1) := by decide +kernel
theorem dX0_countChoices_68 : decode cX0_countChoices 68 = .ok (.iload_n 2, 1) := by decide +kernel
theorem dX0_countChoices_69 : decode cX0_countChoices 69 = .ok (.ishr, 1) := by decide +kernel
theorem dX0_countChoices_70 : decode cX0_countChoices 70 = .ok (.iconst 1, 1) := by decide +kernel
theorem dX0_countChoices_71 : decode cX0_countChoices 71 = .ok (.iand, 1) := by decide +kernel
theorem dX0_countChoices_72 : decode cX0_countChoices 72 = .ok (.iadd, 1) := by decide +kernel
theorem dX0_countChoices_73 : decode cX0_countChoices 73 = .ok (.iastore, 1) := by decide +kernel
theorem dX0_countChoices_74 : decode cX0_countChoices 74 = .ok (.iinc 4 1, 3) := by decide +kernel
theorem dX0_countChoices_77 : decode cX0_countChoices 77 = .ok (.goto (-38), 3) := by decide +kernel
theorem dX0_countChoices_80 : decode cX0_countChoices 80 = .ok (.return_, 1) := by decide +kernel
theorem dX0_power_0 : decode cX0_power 0 = .ok (.lconst 1, 1) := by decide +kernel
theorem dX0_power_1 : decode cX0_power 1 = .ok (.lstore_n 3, 1) := by decide +kernel
theorem dX0_power_2 : decode cX0_power 2 = .ok (.iconst 0, 1) := by decide +kernel
theorem dX0_power_3 : decode cX0_power 3 = .ok (.istore 5, 2) := by decide +kernel
theorem dX0_power_5 : decode cX0_power 5 = .ok (.iload 5, 2) := by decide +kernel
theorem dX0_power_7 : decode cX0_power 7 = .ok (.iload_n 2, 1) := by decide +kernel
theorem dX0_power_8 : decode cX0_power 8 = .ok (.if_icmp .ge 13, 3) := by decide +kernel
theorem dX0_power_11 : decode cX0_power 11 = .ok (.lload_n 3, 1) := by decide +kernel
theorem dX0_power_12 : decode cX0_power 12 = .ok (.lload_n 0, 1) := by decide +kernel
theorem dX0_power_13 : decode cX0_power 13 = .ok (.lmul, 1) := by decide +kernel
theorem dX0_power_14 : decode cX0_power 14 = .ok (.lstore_n 3, 1) := by decide +kernel
theorem dX0_power_15 : decode cX0_power 15 = .ok (.iinc 5 1, 3) := by decide +kernel
theorem dX0_power_18 : decode cX0_power 18 = .ok (.goto (-13), 3) := by decide +kernel
theorem dX0_power_21 : decode cX0_power 21 = .ok (.lload_n 3, 1) := by decide +kernel
theorem dX0_power_22 : decode cX0_power 22 = .ok (.lreturn, 1) := by decide +kernel
theorem dX1_init_0 : decode cX1_init 0 = .ok (.aload_n 0, 1) := by decide +kernel
theorem dX1_init_1 : decode cX1_init 1 = .ok (.invokespecial 3, 3) := by decide +kernel
theorem dX1_init_4 : decode cX1_init 4 = .ok (.aload_n 0, 1) := by decide +kernel
theorem dX1_init_5 : decode cX1_init 5 = .ok (.iconst 0, 1) := by decide +kernel
theorem dX1_init_6 : decode cX1_init 6 = .ok (.putfield 9, 3) := by decide +kernel
theorem dX1_init_9 : decode cX1_init 9 = .ok (.aload_n 0, 1) := by decide +kernel
theorem dX1_init_10 : decode cX1_init 10 = .ok (.iload_n 1, 1) := by decide +kernel
theorem dX1_init_11 : decode cX1_init 11 = .ok (.newarray .int, 2) := by decide +kernel
theorem dX1_init_13 : decode cX1_init 13 = .ok (.putfield 15, 3) := by decide +kernel
theorem dX1_init_16 : decode cX1_init 16 = .ok (.aload_n 0, 1) := by decide +kernel
theorem dX1_init_17 : decode cX1_init 17 = .ok (.iload_n 1, 1) := by decide +kernel
theorem dX1_init_18 : decode cX1_init 18 = .ok (.newarray .int, 2) := by decide +kernel
theorem dX1_init_20 : decode cX1_init 20 = .ok (.putfield 19, 3) := by decide +kernel
theorem dX1_init_23 : decode cX1_init 23 = .ok (.return_, 1) := by decide +kernel
theorem dX1_append_0 : decode cX1_append 0 = .ok (.aload_n 0, 1) := by decide +kernel
theorem dX1_append_1 : decode cX1_append 1 = .ok (.getfield 9, 3) := by decide +kernel
theorem dX1_append_4 : decode cX1_append 4 = .ok (.aload_n 0, 1) := by decide +kernel
theorem dX1_append_5 : decode cX1_append 5 = .ok (.getfield 15, 3) := by decide +kernel
theorem dX1_append_8 : decode cX1_append 8 = .ok (.arraylength, 1) := by decide +kernel
theorem dX1_append_9 : decode cX1_append 9 = .ok (.if_icmp .lt 6, 3) := by decide +kernel
theorem dX1_append_12 : decode cX1_append 12 = .ok (.bipush (-4), 2) := by decide +kernel
theorem dX1_append_14 : decode cX1_append 14 = .ok (.ireturn, 1) := by decide +kernel
theorem dX1_append_15 : decode cX1_append 15 = .ok (.aload_n 0, 1) := by decide +kernel
theorem dX1_append_16 : decode cX1_append 16 = .ok (.getfield 15, 3) := by decide +kernel
theorem dX1_append_19 : decode cX1_append 19 = .ok (.aload_n 0, 1) := by decide +kernel
theorem dX1_append_20 : decode cX1_append 20 = .ok (.getfield 9, 3) := by decide +kernel
theorem dX1_append_23 : decode cX1_append 23 = .ok (.iload_n 1, 1) := by decide +kernel
theorem dX1_append_24 : decode cX1_append 24 = .ok (.iastore, 1) := by decide +kernel
theorem dX1_append_25 : decode cX1_append 25 = .ok (.aload_n 0, 1) := by decide +kernel
theorem dX1_append_26 : decode cX1_append 26 = .ok (.getfield 19, 3) := by decide +kernel
theorem dX1_append_29 : decode cX1_append 29 = .ok (.aload_n 0, 1) := by decide +kernel
theorem dX1_append_30 : decode cX1_append 30 = .ok (.getfield 9, 3) := by decide +kernel
theorem dX1_append_33 : decode cX1_append 33 = .ok (.iload_n 2, 1) := by decide +kernel
theorem dX1_append_34 : decode cX1_append 34 = .ok (.iastore, 1) := by decide +kernel
theorem dX1_append_35 : decode cX1_append 35 = .ok (.aload_n 0, 1) := by decide +kernel
theorem dX1_append_36 : decode cX1_append 36 = .ok (.dup, 1) := by decide +kernel
theorem dX1_append_37 : decode cX1_append 37 = .ok (.getfield 9, 3) := by decide +kernel
theorem dX1_append_40 : decode cX1_append 40 = .ok (.iconst 1, 1) := by decide +kernel
theorem dX1_append_41 : decode cX1_append 41 = .ok (.iadd, 1) := by decide +kernel
theorem dX1_append_42 : decode cX1_append 42 = .ok (.putfield 9, 3) := by decide +kernel
theorem dX1_append_45 : decode cX1_append 45 = .ok (.aload_n 0, 1) := by decide +kernel
theorem dX1_append_46 : decode cX1_append 46 = .ok (.getfield 9, 3) := by decide +kernel
theorem dX1_append_49 : decode cX1_append 49 = .ok (.ireturn, 1) := by decide +kernel
theorem dX1_dropLast_0 : decode cX1_dropLast 0 = .ok (.aload_n 0, 1) := by decide +kernel
theorem dX1_dropLast_1 : decode cX1_dropLast 1 = .ok (.getfield 9, 3) := by decide +kernel
theorem dX1_dropLast_4 : decode cX1_dropLast 4 = .ok (.ifCond .ne 6, 3) := by decide +kernel
theorem dX1_dropLast_7 : decode cX1_dropLast 7 = .ok (.bipush (-3), 2) := by decide +kernel
theorem dX1_dropLast_9 : decode cX1_dropLast 9 = .ok (.ireturn, 1) := by decide +kernel
theorem dX1_dropLast_10 : decode cX1_dropLast 10 = .ok (.aload_n 0, 1) := by decide +kernel
theorem dX1_dropLast_11 : decode cX1_dropLast 11 = .ok (.dup, 1) := by decide +kernel
theorem dX1_dropLast_12 : decode cX1_dropLast 12 = .ok (.getfield 9, 3) := by decide +kernel
theorem dX1_dropLast_15 : decode cX1_dropLast 15 = .ok (.iconst 1, 1) := by decide +kernel
theorem dX1_dropLast_16 : decode cX1_dropLast 16 = .ok (.isub, 1) := by decide +kernel
theorem dX1_dropLast_17 : decode cX1_dropLast 17 = .ok (.putfield 9, 3) := by decide +kernel
theorem dX1_dropLast_20 : decode cX1_dropLast 20 = .ok (.aload_n 0, 1) := by decide +kernel
theorem dX1_dropLast_21 : decode cX1_dropLast 21 = .ok (.getfield 9, 3) := by decide +kernel
theorem dX1_dropLast_24 : decode cX1_dropLast 24 = .ok (.ireturn, 1) := by decide +kernel
theorem dX1_empty_0 : decode cX1_empty 0 = .ok (.aload_n 0, 1) := by decide +kernel
theorem dX1_empty_1 : decode cX1_empty 1 = .ok (.getfield 9, 3) := by decide +kernel
theorem dX1_empty_4 : decode cX1_empty 4 = .ok (.istore_n 1, 1) := by decide +kernel
theorem dX1_empty_5 : decode cX1_empty 5 = .ok (.aload_n 0, 1) := by decide +kernel
theorem dX1_empty_6 : decode cX1_empty 6 = .ok (.iconst 0, 1) := by decide +kernel
theorem dX1_empty_7 : decode cX1_empty 7 = .ok (.putfield 9, 3) := by decide +kernel
theorem dX1_empty_10 : decode cX1_empty 10 = .ok (.iload_n 1, 1) := by decide +kernel
theorem dX1_empty_11 : decode cX1_empty 11 = .ok (.ireturn, 1) := by decide +kernel
theorem dX2_init_0 : decode cX2_init 0 = .ok (.aload_n 0, 1) := by decide +kernel
theorem dX2_init_1 : decode cX2_init 1 = .ok (.invokespecial 3, 3) := by decide +kernel
theorem dX2_init_4 : decode cX2_init 4 = .ok (.aload_n 0, 1) := by decide +kernel
theorem dX2_init_5 : decode cX2_init 5 = .ok (.bipush 60, 2) := by decide +kernel
theorem dX2_init_7 : decode cX2_init 7 = .ok (.newarray .int, 2) := by decide +kernel
theorem dX2_init_9 : decode cX2_init 9 = .ok (.putfield 9, 3) := by decide +kernel
theorem dX2_init_12 : decode cX2_init 12 = .ok (.aload_n 0, 1) := by decide +kernel
theorem dX2_init_13 : decode cX2_init 13 = .ok (.iconst (-1), 1) := by decide +kernel
theorem dX2_init_14 : decode cX2_init 14 = .ok (.putfield 15, 3) := by decide +kernel
theorem dX2_init_17 : decode cX2_init 17 = .ok (.aload_n 0, 1) := by decide +kernel
theorem dX2_init_18 : decode cX2_init 18 = .ok (.iconst 0, 1) := by decide +kernel
theorem dX2_init_19 : decode cX2_init 19 = .ok (.putfield 19, 3) := by decide +kernel
theorem dX2_init_22 : decode cX2_init 22 = .ok (.return_, 1) := by decide +kernel
theorem dX2_isLost_0 : decode cX2_isLost 0 = .ok (.aload_n 0, 1) := by decide +kernel
theorem dX2_isLost_1 : decode cX2_isLost 1 = .ok (.getfield 15, 3) := by decide +kernel
theorem dX2_isLost_4 : decode cX2_isLost 4 = .ok (.iconst (-1), 1) := by decide +kernel
theorem dX2_isLost_5 : decode cX2_isLost 5 = .ok (.if_icmp .ne 7, 3) := by decide +kernel
theorem dX2_isLost_8 : decode cX2_isLost 8 = .ok (.iconst 1, 1) := by decide +kernel
theorem dX2_isLost_9 : decode cX2_isLost 9 = .ok (.goto 4, 3) := by decide +kernel
theorem dX2_isLost_12 : decode cX2_isLost 12 = .ok (.iconst 0, 1) := by decide +kernel
theorem dX2_isLost_13 : decode cX2_isLost 13 = .ok (.ireturn, 1) := by decide +kernel
theorem dX2_begin_0 : decode cX2_begin 0 = .ok (.aload_n 0, 1) := by decide +kernel
theorem dX2_begin_1 : decode cX2_begin 1 = .ok (.iload_n 1, 1) := by decide +kernel
theorem dX2_begin_2 : decode cX2_begin 2 = .ok (.putfield 15, 3) := by decide +kernel
theorem dX2_begin_5 : decode cX2_begin 5 = .ok (.aload_n 0, 1) := by decide +kernel
theorem dX2_begin_6 : decode cX2_begin 6 = .ok (.iload_n 2, 1) := by decide +kernel
theorem dX2_begin_7 : decode cX2_begin 7 = .ok (.putfield 19, 3) := by decide +kernel
theorem dX2_begin_10 : decode cX2_begin 10 = .ok (.iconst 0, 1) := by decide +kernel
theorem dX2_begin_11 : decode cX2_begin 11 = .ok (.istore_n 3, 1) := by decide +kernel
theorem dX2_begin_12 : decode cX2_begin 12 = .ok (.iload_n 3, 1) := by decide +kernel
theorem dX2_begin_13 : decode cX2_begin 13 = .ok (.bipush 60, 2) := by decide +kernel
theorem dX2_begin_15 : decode cX2_begin 15 = .ok (.if_icmp .ge 16, 3) := by decide +kernel
theorem dX2_begin_18 : decode cX2_begin 18 = .ok (.aload_n 0, 1) := by decide +kernel
theorem dX2_begin_19 : decode cX2_begin 19 = .ok (.getfield 9, 3) := by decide +kernel
theorem dX2_begin_22 : decode cX2_begin 22 = .ok (.iload_n 3, 1) := by decide +kernel
theorem dX2_begin_23 : decode cX2_begin 23 = .ok (.iconst 0, 1) := by decide +kernel
theorem dX2_begin_24 : decode cX2_begin 24 = .ok (.iastore, 1) := by decide +kernel
theorem dX2_begin_25 : decode cX2_begin 25 = .ok (.iinc 3 1, 3) := by decide +kernel
theorem dX2_begin_28 : decode cX2_begin 28 = .ok (.goto (-16), 3) := by decide +kernel
theorem dX2_begin_31 : decode cX2_begin 31 = .ok (.return_, 1) := by decide +kernel
theorem dX2_end_0 : decode cX2_end 0 = .ok (.aload_n 0, 1) := by decide +kernel
theorem dX2_end_1 : decode cX2_end 1 = .ok (.getfield 19, 3) := by decide +kernel
theorem dX2_end_4 : decode cX2_end 4 = .ok (.istore_n 1, 1) := by decide +kernel
theorem dX2_end_5 : decode cX2_end 5 = .ok (.aload_n 0, 1) := by decide +kernel
theorem dX2_end_6 : decode cX2_end 6 = .ok (.iconst (-1), 1) := by decide +kernel
theorem dX2_end_7 : decode cX2_end 7 = .ok (.putfield 15, 3) := by decide +kernel
theorem dX2_end_10 : decode cX2_end 10 = .ok (.aload_n 0, 1) := by decide +kernel
theorem dX2_end_11 : decode cX2_end 11 = .ok (.iconst 0, 1) := by decide +kernel
theorem dX2_end_12 : decode cX2_end 12 = .ok (.putfield 19, 3) := by decide +kernel
theorem dX2_end_15 : decode cX2_end 15 = .ok (.iload_n 1, 1) := by decide +kernel
theorem dX2_end_16 : decode cX2_end 16 = .ok (.ireturn, 1) := by decide +kernel
theorem dX2_has_0 : decode cX2_has 0 = .ok (.iload_n 1, 1) := by decide +kernel
theorem dX2_has_1 : decode cX2_has 1 = .ok (.ifCond .lt 29, 3) := by decide +kernel
theorem dX2_has_4 : decode cX2_has 4 = .ok (.iload_n 2, 1) := by decide +kernel
theorem dX2_has_5 : decode cX2_has 5 = .ok (.ifCond .lt 25, 3) := by decide +kernel
theorem dX2_has_8 : decode cX2_has 8 = .ok (.iload_n 1, 1) := by decide +kernel
theorem dX2_has_9 : decode cX2_has 9 = .ok (.aload_n 0, 1) := by decide +kernel
theorem dX2_has_10 : decode cX2_has 10 = .ok (.getfield 19, 3) := by decide +kernel
theorem dX2_has_13 : decode cX2_has 13 = .ok (.if_icmp .gt 17, 3) := by decide +kernel
theorem dX2_has_16 : decode cX2_has 16 = .ok (.iload_n 2, 1) := by decide +kernel
theorem dX2_has_17 : decode cX2_has 17 = .ok (.aload_n 0, 1) := by decide +kernel
theorem dX2_has_18 : decode cX2_has 18 = .ok (.getfield 19, 3) := by decide +kernel
theorem dX2_has_21 : decode cX2_has 21 = .ok (.iload_n 1, 1) := by decide +kernel
theorem dX2_has_22 : decode cX2_has 22 = .ok (.isub, 1) := by decide +kernel
theorem dX2_has_23 : decode cX2_has 23 = .ok (.if_icmp .gt 7, 3) := by decide +kernel
theorem dX2_has_26 : decode cX2_has 26 = .ok (.iconst 1, 1) := by decide +kernel
theorem dX2_has_27 : decode cX2_has 27 = .ok (.goto 4, 3) := by decide +kernel
theorem dX2_has_30 : decode cX2_has 30 = .ok (.iconst 0, 1) := by decide +kernel
theorem dX2_has_31 : decode cX2_has 31 = .ok (.ireturn, 1) := by decide +kernel
theorem dX2_put_0 : decode cX2_put 0 = .ok (.aload_n 0, 1) := by decide +kernel
theorem dX2_put_1 : decode cX2_put 1 = .ok (.getfield 15, 3) := by decide +kernel
theorem dX2_put_4 : decode cX2_put 4 = .ok (.lookupswitch 50 #[(0, 28), (1, 39)], 28) := by decide +kernel
theorem dX2_put_32 : decode cX2_put 32 = .ok (.aload_n 0, 1) := by decide +kernel
theorem dX2_put_33 : decode cX2_put 33 = .ok (.getfield 9, 3) := by decide +kernel
theorem dX2_put_36 : decode cX2_put 36 = .ok (.iload_n 1, 1) := by decide +kernel
theorem dX2_put_37 : decode cX2_put 37 = .ok (.iload_n 2, 1) := by decide +kernel
theorem dX2_put_38 : decode cX2_put 38 = .ok (.i2b, 1) := by decide +kernel
theorem dX2_put_39 : decode cX2_put 39 = .ok (.iastore, 1) := by decide +kernel
theorem dX2_put_40 : decode cX2_put 40 = .ok (.goto 21, 3) := by decide +kernel
theorem dX2_put_43 : decode cX2_put 43 = .ok (.aload_n 0, 1) := by decide +kernel
theorem dX2_put_44 : decode cX2_put 44 = .ok (.getfield 9, 3) := by decide +kernel
theorem dX2_put_47 : decode cX2_put 47 = .ok (.iload_n 1, 1) := by decide +kernel
theorem dX2_put_48 : decode cX2_put 48 = .ok (.iload_n 2, 1) := by decide +kernel
theorem dX2_put_49 : decode cX2_put 49 = .ok (.i2s, 1) := by decide +kernel
theorem dX2_put_50 : decode cX2_put 50 = .ok (.iastore, 1) := by decide +kernel
theorem dX2_put_51 : decode cX2_put 51 = .ok (.goto 10, 3) := by decide +kernel
theorem dX2_put_54 : decode cX2_put 54 = .ok (.aload_n 0, 1) := by decide +kernel
theorem dX2_put_55 : decode cX2_put 55 = .ok (.getfield 9, 3) := by decide +kernel
theorem dX2_put_58 : decode cX2_put 58 = .ok (.iload_n 1, 1) := by decide +kernel
theorem dX2_put_59 : decode cX2_put 59 = .ok (.iload_n 2, 1) := by decide +kernel
theorem dX2_put_60 : decode cX2_put 60 = .ok (.iastore, 1) := by decide +kernel
theorem dX2_put_61 : decode cX2_put 61 = .ok (.return_, 1) := by decide +kernel
theorem dX3_init_0 : decode cX3_init 0 = .ok (.aload_n 0, 1) := by decide +kernel
theorem dX3_init_1 : decode cX3_init 1 = .ok (.invokespecial 3, 3) := by decide +kernel
theorem dX3_init_4 : decode cX3_init 4 = .ok (.aload_n 0, 1) := by decide +kernel
theorem dX3_init_5 : decode cX3_init 5 = .ok (.iconst 0, 1) := by decide +kernel
theorem dX3_init_6 : decode cX3_init 6 = .ok (.putfield 9, 3) := by decide +kernel
theorem dX3_init_9 : decode cX3_init 9 = .ok (.aload_n 0, 1) := by decide +kernel
theorem dX3_init_10 : decode cX3_init 10 = .ok (.iconst 0, 1) := by decide +kernel
theorem dX3_init_11 : decode cX3_init 11 = .ok (.putfield 15, 3) := by decide +kernel
theorem dX3_init_14 : decode cX3_init 14 = .ok (.aload_n 0, 1) := by decide +kernel
theorem dX3_init_15 : decode cX3_init 15 = .ok (.iconst (-1), 1) := by decide +kernel
theorem dX3_init_16 : decode cX3_init 16 = .ok (.putfield 18, 3) := by decide +kernel
theorem dX3_init_19 : decode cX3_init 19 = .ok (.aload_n 0, 1) := by decide +kernel
theorem dX3_init_20 : decode cX3_init 20 = .ok (.iload_n 1, 1) := by decide +kernel
theorem dX3_init_21 : decode cX3_init 21 = .ok (.putfield 21, 3) := by decide +kernel
theorem dX3_init_24 : decode cX3_init 24 = .ok (.aload_n 0, 1) := by decide +kernel
theorem dX3_init_25 : decode cX3_init 25 = .ok (.iload_n 2, 1) := by decide +kernel
theorem dX3_init_26 : decode cX3_init 26 = .ok (.putfield 25, 3) := by decide +kernel
theorem dX3_init_29 : decode cX3_init 29 = .ok (.aload_n 0, 1) := by decide +kernel
theorem dX3_init_30 : decode cX3_init 30 = .ok (.iload_n 3, 1) := by decide +kernel
theorem dX3_init_31 : decode cX3_init 31 = .ok (.iload_n 2, 1) := by decide +kernel
theorem dX3_init_32 : decode cX3_init 32 = .ok (.iconst 1, 1) := by decide +kernel
theorem dX3_init_33 : decode cX3_init 33 = .ok (.iadd, 1) := by decide +kernel
theorem dX3_init_34 : decode cX3_init 34 = .ok (.imul, 1) := by decide +kernel
theorem dX3_init_35 : decode cX3_init 35 = .ok (.iconst 1, 1) := by decide +kernel
theorem dX3_init_36 : decode cX3_init 36 = .ok (.isub, 1) := by decide +kernel
theorem dX3_init_37 : decode cX3_init 37 = .ok (.newarray .int, 2) := by decide +kernel
theorem dX3_init_39 : decode cX3_init 39 = .ok (.putfield 28, 3) := by decide +kernel
theorem dX3_init_42 : decode cX3_init 42 = .ok (.aload_n 0, 1) := by decide +kernel
theorem dX3_init_43 : decode cX3_init 43 = .ok (.iload_n 3, 1) := by decide +kernel
theorem dX3_init_44 : decode cX3_init 44 = .ok (.iload_n 2, 1) := by decide +kernel
theorem dX3_init_45 : decode cX3_init 45 = .ok (.imul, 1) := by decide +kernel
theorem dX3_init_46 : decode cX3_init 46 = .ok (.newarray .int, 2) := by decide +kernel
theorem dX3_init_48 : decode cX3_init 48 = .ok (.putfield 32, 3) := by decide +kernel
theorem dX3_init_51 : decode cX3_init 51 = .ok (.return_, 1) := by decide +kernel
theorem dX3_append_0 : decode cX3_append 0 = .ok (.aload_n 0, 1) := by decide +kernel
theorem dX3_append_1 : decode cX3_append 1 = .ok (.getfield 9, 3) := by decide +kernel
theorem dX3_append_4 : decode cX3_append 4 = .ok (.aload_n 0, 1) := by decide +kernel
theorem dX3_append_5 : decode cX3_append 5 = .ok (.getfield 28, 3) := by decide +kernel
theorem dX3_append_8 : decode cX3_append 8 = .ok (.arraylength, 1) := by decide +kernel
theorem dX3_append_9 : decode cX3_append 9 = .ok (.if_icmp .lt 6, 3) := by decide +kernel
theorem dX3_append_12 : decode cX3_append 12 = .ok (.bipush (-4), 2) := by decide +kernel
theorem dX3_append_14 : decode cX3_append 14 = .ok (.ireturn, 1) := by decide +kernel
theorem dX3_append_15 : decode cX3_append 15 = .ok (.aload_n 0, 1) := by decide +kernel
theorem dX3_append_16 : decode cX3_append 16 = .ok (.getfield 28, 3) := by decide +kernel
theorem dX3_append_19 : decode cX3_append 19 = .ok (.aload_n 0, 1) := by decide +kernel
theorem dX3_append_20 : decode cX3_append 20 = .ok (.getfield 9, 3) := by decide +kernel
theorem dX3_append_23 : decode cX3_append 23 = .ok (.iload_n 1, 1) := by decide +kernel
theorem dX3_append_24 : decode cX3_append 24 = .ok (.iastore, 1) := by decide +kernel
theorem dX3_append_25 : decode cX3_append 25 = .ok (.aload_n 0, 1) := by decide +kernel
theorem dX3_append_26 : decode cX3_append 26 = .ok (.dup, 1) := by decide +kernel
theorem dX3_append_27 : decode cX3_append 27 = .ok (.getfield 9, 3) := by decide +kernel
theorem dX3_append_30 : decode cX3_append 30 = .ok (.iconst 1, 1) := by decide +kernel
theorem dX3_append_31 : decode cX3_append 31 = .ok (.iadd, 1) := by decide +kernel
theorem dX3_append_32 : decode cX3_append 32 = .ok (.putfield 9, 3) := by decide +kernel
theorem dX3_append_35 : decode cX3_append 35 = .ok (.aload_n 0, 1) := by decide +kernel
theorem dX3_append_36 : decode cX3_append 36 = .ok (.invokevirtual 35, 3) := by decide +kernel
theorem dX3_append_39 : decode cX3_append 39 = .ok (.aload_n 0, 1) := by decide +kernel
theorem dX3_append_40 : decode cX3_append 40 = .ok (.getfield 9, 3) := by decide +kernel
theorem dX3_append_43 : decode cX3_append 43 = .ok (.ireturn, 1) := by decide +kernel
theorem dX3_empty_0 : decode cX3_empty 0 = .ok (.aload_n 0, 1) := by decide +kernel
theorem dX3_empty_1 : decode cX3_empty 1 = .ok (.getfield 9, 3) := by decide +kernel
theorem dX3_empty_4 : decode cX3_empty 4 = .ok (.istore_n 1, 1) := by decide +kernel
theorem dX3_empty_5 : decode cX3_empty 5 = .ok (.aload_n 0, 1) := by decide +kernel
theorem dX3_empty_6 : decode cX3_empty 6 = .ok (.iconst 0, 1) := by decide +kernel
theorem dX3_empty_7 : decode cX3_empty 7 = .ok (.putfield 9, 3) := by decide +kernel
theorem dX3_empty_10 : decode cX3_empty 10 = .ok (.aload_n 0, 1) := by decide +kernel
theorem dX3_empty_11 : decode cX3_empty 11 = .ok (.invokevirtual 35, 3) := by decide +kernel
theorem dX3_empty_14 : decode cX3_empty 14 = .ok (.iload_n 1, 1) := by decide +kernel
theorem dX3_empty_15 : decode cX3_empty 15 = .ok (.ireturn, 1) := by decide +kernel
theorem dX3_dropLast_0 : decode cX3_dropLast 0 = .ok (.aload_n 0, 1) := by decide +kernel
theorem dX3_dropLast_1 : decode cX3_dropLast 1 = .ok (.getfield 9, 3) := by decide +kernel
theorem dX3_dropLast_4 : decode cX3_dropLast 4 = .ok (.ifCond .ne 6, 3) := by decide +kernel
theorem dX3_dropLast_7 : decode cX3_dropLast 7 = .ok (.bipush (-3), 2) := by decide +kernel
theorem dX3_dropLast_9 : decode cX3_dropLast 9 = .ok (.ireturn, 1) := by decide +kernel
theorem dX3_dropLast_10 : decode cX3_dropLast 10 = .ok (.aload_n 0, 1) := by decide +kernel
theorem dX3_dropLast_11 : decode cX3_dropLast 11 = .ok (.dup, 1) := by decide +kernel
theorem dX3_dropLast_12 : decode cX3_dropLast 12 = .ok (.getfield 9, 3) := by decide +kernel
theorem dX3_dropLast_15 : decode cX3_dropLast 15 = .ok (.iconst 1, 1) := by decide +kernel
theorem dX3_dropLast_16 : decode cX3_dropLast 16 = .ok (.isub, 1) := by decide +kernel
theorem dX3_dropLast_17 : decode cX3_dropLast 17 = .ok (.putfield 9, 3) := by decide +kernel
theorem dX3_dropLast_20 : decode cX3_dropLast 20 = .ok (.aload_n 0, 1) := by decide +kernel
theorem dX3_dropLast_21 : decode cX3_dropLast 21 = .ok (.invokevirtual 35, 3) := by decide +kernel
theorem dX3_dropLast_24 : decode cX3_dropLast 24 = .ok (.aload_n 0, 1) := by decide +kernel
theorem dX3_dropLast_25 : decode cX3_dropLast 25 = .ok (.getfield 9, 3) := by decide +kernel
theorem dX3_dropLast_28 : decode cX3_dropLast 28 = .ok (.ireturn, 1) := by decide +kernel
theorem dX3_part_0 : decode cX3_part 0 = .ok (.aload_n 0, 1) := by decide +kernel
theorem dX3_part_1 : decode cX3_part 1 = .ok (.getfield 32, 3) := by decide +kernel
theorem dX3_part_4 : decode cX3_part 4 = .ok (.iload_n 1, 1) := by decide +kernel
theorem dX3_part_5 : decode cX3_part 5 = .ok (.aload_n 0, 1) := by decide +kernel
theorem dX3_part_6 : decode cX3_part 6 = .ok (.getfield 25, 3) := by decide +kernel
theorem dX3_part_9 : decode cX3_part 9 = .ok (.imul, 1) := by decide +kernel
theorem dX3_part_10 : decode cX3_part 10 = .ok (.iload_n 2, 1) := by decide +kernel
theorem dX3_part_11 : decode cX3_part 11 = .ok (.iadd, 1) := by decide +kernel
theorem dX3_part_12 : decode cX3_part 12 = .ok (.iaload, 1) := by decide +kernel
theorem dX3_part_13 : decode cX3_part 13 = .ok (.ireturn, 1) := by decide +kernel
theorem dX3_parse_0 : decode cX3_parse 0 = .ok (.aload_n 0, 1) := by decide +kernel
theorem dX3_parse_1 : decode cX3_parse 1 = .ok (.iconst 0, 1) := by decide +kernel
theorem dX3_parse_2 : decode cX3_parse 2 = .ok (.putfield 15, 3) := by decide +kernel
theorem dX3_parse_5 : decode cX3_parse 5 = .ok (.aload_n 0, 1) := by decide +kernel
theorem dX3_parse_6 : decode cX3_parse 6 = .ok (.iconst (-1), 1) := by decide +kernel
theorem dX3_parse_7 : decode cX3_parse 7 = .ok (.putfield 18, 3) := by decide +kernel
theorem dX3_parse_10 : decode cX3_parse 10 = .ok (.iconst 0, 1) := by decide +kernel
theorem dX3_parse_11 : decode cX3_parse 11 = .ok (.istore_n 1, 1) := by decide +kernel
theorem dX3_parse_12 : decode cX3_parse 12 = .ok (.iconst 0, 1) := by decide +kernel
theorem dX3_parse_13 : decode cX3_parse 13 = .ok (.istore_n 2, 1) := by decide +kernel
theorem dX3_parse_14 : decode cX3_parse 14 = .ok (.iconst 0, 1) := by decide +kernel
theorem dX3_parse_15 : decode cX3_parse 15 = .ok (.istore_n 3, 1) := by decide +kernel
theorem dX3_parse_16 : decode cX3_parse 16 = .ok (.iload_n 3, 1) := by decide +kernel
theorem dX3_parse_17 : decode cX3_parse 17 = .ok (.aload_n 0, 1) := by decide +kernel
theorem dX3_parse_18 : decode cX3_parse 18 = .ok (.getfield 9, 3) := by decide +kernel
theorem dX3_parse_21 : decode cX3_parse 21 = .ok (.if_icmp .ge 70, 3) := by decide +kernel
theorem dX3_parse_24 : decode cX3_parse 24 = .ok (.aload_n 0, 1) := by decide +kernel
theorem dX3_parse_25 : decode cX3_parse 25 = .ok (.getfield 28, 3) := by decide +kernel
theorem dX3_parse_28 : decode cX3_parse 28 = .ok (.iload_n 3, 1) := by decide +kernel
theorem dX3_parse_29 : decode cX3_parse 29 = .ok (.iaload, 1) := by decide +kernel
theorem dX3_parse_30 : decode cX3_parse 30 = .ok (.aload_n 0, 1) := by decide +kernel
theorem dX3_parse_31 : decode cX3_parse 31 = .ok (.iload_n 2, 1) := by decide +kernel
theorem dX3_parse_32 : decode cX3_parse 32 = .ok (.invokevirtual 38, 3) := by decide +kernel
theorem dX3_parse_35 : decode cX3_parse 35 = .ok (.invokestatic 42, 3) := by decide +kernel
theorem dX3_parse_38 : decode cX3_parse 38 = .ok (.istore 4, 2) := by decide +kernel
theorem dX3_parse_40 : decode cX3_parse 40 = .ok (.iload 4, 2) := by decide +kernel
theorem dX3_parse_42 : decode cX3_parse 42 = .ok (.ifCond .ge 9, 3) := by decide +kernel
theorem dX3_parse_45 : decode cX3_parse 45 = .ok (.aload_n 0, 1) := by decide +kernel
theorem dX3_parse_46 : decode cX3_parse 46 = .ok (.iload_n 3, 1) := by decide +kernel
theorem dX3_parse_47 : decode cX3_parse 47 = .ok (.putfield 18, 3) := by decide +kernel
theorem dX3_parse_50 : decode cX3_parse 50 = .ok (.return_, 1) := by decide +kernel
theorem dX3_parse_51 : decode cX3_parse 51 = .ok (.iload_n 2, 1) := by decide +kernel
theorem dX3_parse_52 : decode cX3_parse 52 = .ok (.aload_n 0, 1) := by decide +kernel
theorem dX3_parse_53 : decode cX3_parse 53 = .ok (.getfield 25, 3) := by decide +kernel
theorem dX3_parse_56 : decode cX3_parse 56 = .ok (.if_icmp .ne 11, 3) := by decide +kernel
theorem dX3_parse_59 : decode cX3_parse 59 = .ok (.iinc 1 1, 3) := by decide +kernel
theorem dX3_parse_62 : decode cX3_parse 62 = .ok (.iconst 0, 1) := by decide +kernel
theorem dX3_parse_63 : decode cX3_parse 63 = .ok (.istore_n 2, 1) := by decide +kernel
theorem dX3_parse_64 : decode cX3_parse 64 = .ok (.goto 21, 3) := by decide +kernel
theorem dX3_parse_67 : decode cX3_parse 67 = .ok (.aload_n 0, 1) := by decide +kernel
theorem dX3_parse_68 : decode cX3_parse 68 = .ok (.getfield 32, 3) := by decide +kernel
theorem dX3_parse_71 : decode cX3_parse 71 = .ok (.iload_n 1, 1) := by decide +kernel
theorem dX3_parse_72 : decode cX3_parse 72 = .ok (.aload_n 0, 1) := by decide +kernel
theorem dX3_parse_73 : decode cX3_parse 73 = .ok (.getfield 25, 3) := by decide +kernel
theorem dX3_parse_76 : decode cX3_parse 76 = .ok (.imul, 1) := by decide +kernel
theorem dX3_parse_77 : decode cX3_parse 77 = .ok (.iload_n 2, 1) := by decide +kernel
theorem dX3_parse_78 : decode cX3_parse 78 = .ok (.iadd, 1) := by decide +kernel
theorem dX3_parse_79 : decode cX3_parse 79 = .ok (.iload 4, 2) := by decide +kernel
theorem dX3_parse_81 : decode cX3_parse 81 = .ok (.iastore, 1) := by decide +kernel
theorem dX3_parse_82 : decode cX3_parse 82 = .ok (.iinc 2 1, 3) := by decide +kernel
theorem dX3_parse_85 : decode cX3_parse 85 = .ok (.iinc 3 1, 3) := by decide +kernel
theorem dX3_parse_88 : decode cX3_parse 88 = .ok (.goto (-72), 3) := by decide +kernel
theorem dX3_parse_91 : decode cX3_parse 91 = .ok (.iload_n 2, 1) := by decide +kernel
theorem dX3_parse_92 : decode cX3_parse 92 = .ok (.aload_n 0, 1) := by decide +kernel
theorem dX3_parse_93 : decode cX3_parse 93 = .ok (.getfield 25, 3) := by decide +kernel
theorem dX3_parse_96 : decode cX3_parse 96 = .ok (.if_icmp .ne 13, 3) := by decide +kernel
theorem dX3_parse_99 : decode cX3_parse 99 = .ok (.aload_n 0, 1) := by decide +kernel
theorem dX3_parse_100 : decode cX3_parse 100 = .ok (.iload_n 1, 1) := by decide +kernel
theorem dX3_parse_101 : decode cX3_parse 101 = .ok (.iconst 1, 1) := by decide +kernel
theorem dX3_parse_102 : decode cX3_parse 102 = .ok (.iadd, 1) := by decide +kernel
theorem dX3_parse_103 : decode cX3_parse 103 = .ok (.putfield 15, 3) := by decide +kernel
theorem dX3_parse_106 : decode cX3_parse 106 = .ok (.goto 18, 3) := by decide +kernel
theorem dX3_parse_109 : decode cX3_parse 109 = .ok (.aload_n 0, 1) := by decide +kernel
theorem dX3_parse_110 : decode cX3_parse 110 = .ok (.getfield 9, 3) := by decide +kernel
theorem dX3_parse_113 : decode cX3_parse 113 = .ok (.ifCond .le 11, 3) := by decide +kernel
theorem dX3_parse_116 : decode cX3_parse 116 = .ok (.aload_n 0, 1) := by decide +kernel
theorem dX3_parse_117 : decode cX3_parse 117 = .ok (.aload_n 0, 1) := by decide +kernel
theorem dX3_parse_118 : decode cX3_parse 118 = .ok (.getfield 9, 3) := by decide +kernel
theorem dX3_parse_121 : decode cX3_parse 121 = .ok (.putfield 18, 3) := by decide +kernel
theorem dX3_parse_124 : decode cX3_parse 124 = .ok (.return_, 1) := by decide +kernel
theorem dX3_placeOf_0 : decode cX3_placeOf 0 = .ok (.iconst 0, 1) := by decide +kernel
theorem dX3_placeOf_1 : decode cX3_placeOf 1 = .ok (.istore_n 2, 1) := by decide +kernel
theorem dX3_placeOf_2 : decode cX3_placeOf 2 = .ok (.iload_n 2, 1) := by decide +kernel
theorem dX3_placeOf_3 : decode cX3_placeOf 3 = .ok (.aload_n 1, 1) := by decide +kernel
theorem dX3_placeOf_4 : decode cX3_placeOf 4 = .ok (.arraylength, 1) := by decide +kernel
theorem dX3_placeOf_5 : decode cX3_placeOf 5 = .ok (.if_icmp .ge 18, 3) := by decide +kernel
theorem dX3_placeOf_8 : decode cX3_placeOf 8 = .ok (.aload_n 1, 1) := by decide +kernel
theorem dX3_placeOf_9 : decode cX3_placeOf 9 = .ok (.iload_n 2, 1) := by decide +kernel
theorem dX3_placeOf_10 : decode cX3_placeOf 10 = .ok (.caload, 1) := by decide +kernel
theorem dX3_placeOf_11 : decode cX3_placeOf 11 = .ok (.iload_n 0, 1) := by decide +kernel
theorem dX3_placeOf_12 : decode cX3_placeOf 12 = .ok (.if_icmp .ne 5, 3) := by decide +kernel
theorem dX3_placeOf_15 : decode cX3_placeOf 15 = .ok (.iload_n 2, 1) := by decide +kernel
theorem dX3_placeOf_16 : decode cX3_placeOf 16 = .ok (.ireturn, 1) := by decide +kernel
theorem dX3_placeOf_17 : decode cX3_placeOf 17 = .ok (.iinc 2 1, 3) := by decide +kernel
theorem dX3_placeOf_20 : decode cX3_placeOf 20 = .ok (.goto (-18), 3) := by decide +kernel
theorem dX3_placeOf_23 : decode cX3_placeOf 23 = .ok (.iconst (-1), 1) := by decide +kernel
theorem dX3_placeOf_24 : decode cX3_placeOf 24 = .ok (.ireturn, 1) := by decide +kernel
theorem dX3_signs_0 : decode cX3_signs 0 = .ok (.iload_n 1, 1) := by decide +kernel
theorem dX3_signs_1 : decode cX3_signs 1 = .ok (.aload_n 0, 1) := by decide +kernel
theorem dX3_signs_2 : decode cX3_signs 2 = .ok (.getfield 25, 3) := by decide +kernel
theorem dX3_signs_5 : decode cX3_signs 5 = .ok (.if_icmp .ne 7, 3) := by decide +kernel
theorem dX3_signs_8 : decode cX3_signs 8 = .ok (.getstatic 46, 3) := by decide +kernel
theorem dX3_signs_11 : decode cX3_signs 11 = .ok (.areturn, 1) := by decide +kernel
theorem dX3_signs_12 : decode cX3_signs 12 = .ok (.aload_n 0, 1) := by decide +kernel
theorem dX3_signs_13 : decode cX3_signs 13 = .ok (.getfield 21, 3) := by decide +kernel
theorem dX3_signs_16 : decode cX3_signs 16 = .ok (.ifCond .eq 10, 3) := by decide +kernel
theorem dX3_signs_19 : decode cX3_signs 19 = .ok (.iload_n 1, 1) := by decide +kernel
theorem dX3_signs_20 : decode cX3_signs 20 = .ok (.invokestatic 50, 3) := by decide +kernel
theorem dX3_signs_23 : decode cX3_signs 23 = .ok (.goto 7, 3) := by decide +kernel
theorem dX3_signs_26 : decode cX3_signs 26 = .ok (.iload_n 1, 1) := by decide +kernel
theorem dX3_signs_27 : decode cX3_signs 27 = .ok (.invokestatic 53, 3) := by decide +kernel
theorem dX3_signs_30 : decode cX3_signs 30 = .ok (.areturn, 1) := by decide +kernel
theorem dX3_signsOfLeaf_0 : decode cX3_signsOfLeaf 0 = .ok (.iload_n 0, 1) := by decide +kernel
theorem dX3_signsOfLeaf_1 : decode cX3_signsOfLeaf 1 = .ok (.lookupswitch 35 #[(0, 27), (1, 31)], 27) := by decide +kernel
theorem dX3_signsOfLeaf_28 : decode cX3_signsOfLeaf 28 = .ok (.getstatic 56, 3) := by decide +kernel
theorem dX3_signsOfLeaf_31 : decode cX3_signsOfLeaf 31 = .ok (.areturn, 1) := by decide +kernel
theorem dX3_signsOfLeaf_32 : decode cX3_signsOfLeaf 32 = .ok (.getstatic 59, 3) := by decide +kernel
theorem dX3_signsOfLeaf_35 : decode cX3_signsOfLeaf 35 = .ok (.areturn, 1) := by decide +kernel
theorem dX3_signsOfLeaf_36 : decode cX3_signsOfLeaf 36 = .ok (.getstatic 62, 3) := by decide +kernel
theorem dX3_signsOfLeaf_39 : decode cX3_signsOfLeaf 39 = .ok (.areturn, 1) := by decide +kernel
theorem dX3_signsOfRule_0 : decode cX3_signsOfRule 0 = .ok (.iload_n 0, 1) := by decide +kernel
theorem dX3_signsOfRule_1 : decode cX3_signsOfRule 1 = .ok (.tableswitch 43 1 4 #[31, 43, 35, 39], 31) := by decide +kernel
theorem dX3_signsOfRule_32 : decode cX3_signsOfRule 32 = .ok (.getstatic 65, 3) := by decide +kernel
theorem dX3_signsOfRule_35 : decode cX3_signsOfRule 35 = .ok (.areturn, 1) := by decide +kernel
theorem dX3_signsOfRule_36 : decode cX3_signsOfRule 36 = .ok (.getstatic 68, 3) := by decide +kernel
theorem dX3_signsOfRule_39 : decode cX3_signsOfRule 39 = .ok (.areturn, 1) := by decide +kernel
theorem dX3_signsOfRule_40 : decode cX3_signsOfRule 40 = .ok (.getstatic 71, 3) := by decide +kernel
theorem dX3_signsOfRule_43 : decode cX3_signsOfRule 43 = .ok (.areturn, 1) := by decide +kernel
theorem dX3_signsOfRule_44 : decode cX3_signsOfRule 44 = .ok (.getstatic 62, 3) := by decide +kernel
theorem dX3_signsOfRule_47 : decode cX3_signsOfRule 47 = .ok (.areturn, 1) := by decide +kernel
