theorem dX5_dayOf_7 : decode cX5_dayOf 7 = .ok (.iload_n 1, 1) := by decide +kernel
theorem dX5_dayOf_8 : decode cX5_dayOf 8 = .ok (.aload_n 0, 1) := by decide +kernel
theorem dX5_dayOf_9 : decode cX5_dayOf 9 = .ok (.getfield 40, 3) := by decide +kernel
theorem dX5_dayOf_12 : decode cX5_dayOf 12 = .ok (.iconst 1, 1) := by decide +kernel
theorem dX5_dayOf_13 : decode cX5_dayOf 13 = .ok (.iaload, 1) := by decide +kernel
theorem dX5_dayOf_14 : decode cX5_dayOf 14 = .ok (.imul, 1) := by decide +kernel
theorem dX5_dayOf_15 : decode cX5_dayOf 15 = .ok (.iadd, 1) := by decide +kernel
theorem dX5_dayOf_16 : decode cX5_dayOf 16 = .ok (.iconst 4, 1) := by decide +kernel
theorem dX5_dayOf_17 : decode cX5_dayOf 17 = .ok (.irem, 1) := by decide +kernel
theorem dX5_dayOf_18 : decode cX5_dayOf 18 = .ok (.invokevirtual 203, 3) := by decide +kernel
theorem dX5_dayOf_21 : decode cX5_dayOf 21 = .ok (.ireturn, 1) := by decide +kernel
theorem dX5_day_0 : decode cX5_day 0 = .ok (.aload_n 0, 1) := by decide +kernel
theorem dX5_day_1 : decode cX5_day 1 = .ok (.invokevirtual 129, 3) := by decide +kernel
theorem dX5_day_4 : decode cX5_day 4 = .ok (.iload_n 1, 1) := by decide +kernel
theorem dX5_day_5 : decode cX5_day 5 = .ok (.invokestatic 142, 3) := by decide +kernel
theorem dX5_day_8 : decode cX5_day 8 = .ok (.ifCond .eq 11, 3) := by decide +kernel
theorem dX5_day_11 : decode cX5_day 11 = .ok (.aload_n 0, 1) := by decide +kernel
theorem dX5_day_12 : decode cX5_day 12 = .ok (.iload_n 1, 1) := by decide +kernel
theorem dX5_day_13 : decode cX5_day 13 = .ok (.invokevirtual 206, 3) := by decide +kernel
theorem dX5_day_16 : decode cX5_day 16 = .ok (.goto 5, 3) := by decide +kernel
theorem dX5_day_19 : decode cX5_day 19 = .ok (.bipush (-2), 2) := by decide +kernel
theorem dX5_day_21 : decode cX5_day 21 = .ok (.ireturn, 1) := by decide +kernel
theorem dX5_brokenNow_0 : decode cX5_brokenNow 0 = .ok (.iconst 0, 1) := by decide +kernel
theorem dX5_brokenNow_1 : decode cX5_brokenNow 1 = .ok (.istore_n 1, 1) := by decide +kernel
theorem dX5_brokenNow_2 : decode cX5_brokenNow 2 = .ok (.iconst 0, 1) := by decide +kernel
theorem dX5_brokenNow_3 : decode cX5_brokenNow 3 = .ok (.istore_n 2, 1) := by decide +kernel
theorem dX5_brokenNow_4 : decode cX5_brokenNow 4 = .ok (.iload_n 2, 1) := by decide +kernel
theorem dX5_brokenNow_5 : decode cX5_brokenNow 5 = .ok (.aload_n 0, 1) := by decide +kernel
theorem dX5_brokenNow_6 : decode cX5_brokenNow 6 = .ok (.getfield 148, 3) := by decide +kernel
theorem dX5_brokenNow_9 : decode cX5_brokenNow 9 = .ok (.if_icmp .ge 47, 3) := by decide +kernel
theorem dX5_brokenNow_12 : decode cX5_brokenNow 12 = .ok (.iload_n 1, 1) := by decide +kernel
theorem dX5_brokenNow_13 : decode cX5_brokenNow 13 = .ok (.aload_n 0, 1) := by decide +kernel
theorem dX5_brokenNow_14 : decode cX5_brokenNow 14 = .ok (.aload_n 0, 1) := by decide +kernel
theorem dX5_brokenNow_15 : decode cX5_brokenNow 15 = .ok (.getfield 37, 3) := by decide +kernel
theorem dX5_brokenNow_18 : decode cX5_brokenNow 18 = .ok (.iconst 2, 1) := by decide +kernel
theorem dX5_brokenNow_19 : decode cX5_brokenNow 19 = .ok (.iload_n 2, 1) := by decide +kernel
theorem dX5_brokenNow_20 : decode cX5_brokenNow 20 = .ok (.imul, 1) := by decide +kernel
theorem dX5_brokenNow_21 : decode cX5_brokenNow 21 = .ok (.iaload, 1) := by decide +kernel
theorem dX5_brokenNow_22 : decode cX5_brokenNow 22 = .ok (.invokevirtual 206, 3) := by decide +kernel
theorem dX5_brokenNow_25 : decode cX5_brokenNow 25 = .ok (.aload_n 0, 1) := by decide +kernel
theorem dX5_brokenNow_26 : decode cX5_brokenNow 26 = .ok (.getfield 37, 3) := by decide +kernel
theorem dX5_brokenNow_29 : decode cX5_brokenNow 29 = .ok (.iconst 2, 1) := by decide +kernel
theorem dX5_brokenNow_30 : decode cX5_brokenNow 30 = .ok (.iload_n 2, 1) := by decide +kernel
theorem dX5_brokenNow_31 : decode cX5_brokenNow 31 = .ok (.imul, 1) := by decide +kernel
theorem dX5_brokenNow_32 : decode cX5_brokenNow 32 = .ok (.iconst 1, 1) := by decide +kernel
theorem dX5_brokenNow_33 : decode cX5_brokenNow 33 = .ok (.iadd, 1) := by decide +kernel
theorem dX5_brokenNow_34 : decode cX5_brokenNow 34 = .ok (.iaload, 1) := by decide +kernel
theorem dX5_brokenNow_35 : decode cX5_brokenNow 35 = .ok (.invokestatic 178, 3) := by decide +kernel
theorem dX5_brokenNow_38 : decode cX5_brokenNow 38 = .ok (.ifCond .eq 9, 3) := by decide +kernel
theorem dX5_brokenNow_41 : decode cX5_brokenNow 41 = .ok (.iconst 1, 1) := by decide +kernel
theorem dX5_brokenNow_42 : decode cX5_brokenNow 42 = .ok (.iload_n 2, 1) := by decide +kernel
theorem dX5_brokenNow_43 : decode cX5_brokenNow 43 = .ok (.ishl, 1) := by decide +kernel
theorem dX5_brokenNow_44 : decode cX5_brokenNow 44 = .ok (.goto 4, 3) := by decide +kernel
theorem dX5_brokenNow_47 : decode cX5_brokenNow 47 = .ok (.iconst 0, 1) := by decide +kernel
theorem dX5_brokenNow_48 : decode cX5_brokenNow 48 = .ok (.ior, 1) := by decide +kernel
theorem dX5_brokenNow_49 : decode cX5_brokenNow 49 = .ok (.istore_n 1, 1) := by decide +kernel
theorem dX5_brokenNow_50 : decode cX5_brokenNow 50 = .ok (.iinc 2 1, 3) := by decide +kernel
theorem dX5_brokenNow_53 : decode cX5_brokenNow 53 = .ok (.goto (-49), 3) := by decide +kernel
theorem dX5_brokenNow_56 : decode cX5_brokenNow 56 = .ok (.iload_n 1, 1) := by decide +kernel
theorem dX5_brokenNow_57 : decode cX5_brokenNow 57 = .ok (.ireturn, 1) := by decide +kernel
theorem dX5_firstBroken_0 : decode cX5_firstBroken 0 = .ok (.aload_n 0, 1) := by decide +kernel
theorem dX5_firstBroken_1 : decode cX5_firstBroken 1 = .ok (.invokevirtual 209, 3) := by decide +kernel
theorem dX5_firstBroken_4 : decode cX5_firstBroken 4 = .ok (.istore_n 1, 1) := by decide +kernel
theorem dX5_firstBroken_5 : decode cX5_firstBroken 5 = .ok (.iconst (-1), 1) := by decide +kernel
theorem dX5_firstBroken_6 : decode cX5_firstBroken 6 = .ok (.istore_n 2, 1) := by decide +kernel
theorem dX5_firstBroken_7 : decode cX5_firstBroken 7 = .ok (.iconst 0, 1) := by decide +kernel
theorem dX5_firstBroken_8 : decode cX5_firstBroken 8 = .ok (.istore_n 3, 1) := by decide +kernel
theorem dX5_firstBroken_9 : decode cX5_firstBroken 9 = .ok (.iload_n 3, 1) := by decide +kernel
theorem dX5_firstBroken_10 : decode cX5_firstBroken 10 = .ok (.aload_n 0, 1) := by decide +kernel
theorem dX5_firstBroken_11 : decode cX5_firstBroken 11 = .ok (.getfield 148, 3) := by decide +kernel
theorem dX5_firstBroken_14 : decode cX5_firstBroken 14 = .ok (.if_icmp .ge 47, 3) := by decide +kernel
theorem dX5_firstBroken_17 : decode cX5_firstBroken 17 = .ok (.iload_n 1, 1) := by decide +kernel
theorem dX5_firstBroken_18 : decode cX5_firstBroken 18 = .ok (.iload_n 3, 1) := by decide +kernel
theorem dX5_firstBroken_19 : decode cX5_firstBroken 19 = .ok (.invokestatic 178, 3) := by decide +kernel
theorem dX5_firstBroken_22 : decode cX5_firstBroken 22 = .ok (.ifCond .eq 31, 3) := by decide +kernel
theorem dX5_firstBroken_25 : decode cX5_firstBroken 25 = .ok (.iload_n 2, 1) := by decide +kernel
theorem dX5_firstBroken_26 : decode cX5_firstBroken 26 = .ok (.iconst (-1), 1) := by decide +kernel
theorem dX5_firstBroken_27 : decode cX5_firstBroken 27 = .ok (.if_icmp .eq 22, 3) := by decide +kernel
theorem dX5_firstBroken_30 : decode cX5_firstBroken 30 = .ok (.aload_n 0, 1) := by decide +kernel
theorem dX5_firstBroken_31 : decode cX5_firstBroken 31 = .ok (.getfield 37, 3) := by decide +kernel
theorem dX5_firstBroken_34 : decode cX5_firstBroken 34 = .ok (.iconst 2, 1) := by decide +kernel
theorem dX5_firstBroken_35 : decode cX5_firstBroken 35 = .ok (.iload_n 3, 1) := by decide +kernel
theorem dX5_firstBroken_36 : decode cX5_firstBroken 36 = .ok (.imul, 1) := by decide +kernel
theorem dX5_firstBroken_37 : decode cX5_firstBroken 37 = .ok (.iaload, 1) := by decide +kernel
theorem dX5_firstBroken_38 : decode cX5_firstBroken 38 = .ok (.aload_n 0, 1) := by decide +kernel
theorem dX5_firstBroken_39 : decode cX5_firstBroken 39 = .ok (.getfield 37, 3) := by decide +kernel
theorem dX5_firstBroken_42 : decode cX5_firstBroken 42 = .ok (.iconst 2, 1) := by decide +kernel
theorem dX5_firstBroken_43 : decode cX5_firstBroken 43 = .ok (.iload_n 2, 1) := by decide +kernel
theorem dX5_firstBroken_44 : decode cX5_firstBroken 44 = .ok (.imul, 1) := by decide +kernel
theorem dX5_firstBroken_45 : decode cX5_firstBroken 45 = .ok (.iaload, 1) := by decide +kernel
theorem dX5_firstBroken_46 : decode cX5_firstBroken 46 = .ok (.if_icmp .ge 7, 3) := by decide +kernel
theorem dX5_firstBroken_49 : decode cX5_firstBroken 49 = .ok (.iload_n 3, 1) := by decide +kernel
theorem dX5_firstBroken_50 : decode cX5_firstBroken 50 = .ok (.goto 4, 3) := by decide +kernel
theorem dX5_firstBroken_53 : decode cX5_firstBroken 53 = .ok (.iload_n 2, 1) := by decide +kernel
theorem dX5_firstBroken_54 : decode cX5_firstBroken 54 = .ok (.istore_n 2, 1) := by decide +kernel
theorem dX5_firstBroken_55 : decode cX5_firstBroken 55 = .ok (.iinc 3 1, 3) := by decide +kernel
theorem dX5_firstBroken_58 : decode cX5_firstBroken 58 = .ok (.goto (-49), 3) := by decide +kernel
theorem dX5_firstBroken_61 : decode cX5_firstBroken 61 = .ok (.iload_n 2, 1) := by decide +kernel
theorem dX5_firstBroken_62 : decode cX5_firstBroken 62 = .ok (.ireturn, 1) := by decide +kernel
theorem dX5_broken_0 : decode cX5_broken 0 = .ok (.aload_n 0, 1) := by decide +kernel
theorem dX5_broken_1 : decode cX5_broken 1 = .ok (.invokevirtual 129, 3) := by decide +kernel
theorem dX5_broken_4 : decode cX5_broken 4 = .ok (.iload_n 1, 1) := by decide +kernel
theorem dX5_broken_5 : decode cX5_broken 5 = .ok (.invokestatic 89, 3) := by decide +kernel
theorem dX5_broken_8 : decode cX5_broken 8 = .ok (.ifCond .ne 8, 3) := by decide +kernel
theorem dX5_broken_11 : decode cX5_broken 11 = .ok (.bipush (-2), 2) := by decide +kernel
theorem dX5_broken_13 : decode cX5_broken 13 = .ok (.goto 18, 3) := by decide +kernel
theorem dX5_broken_16 : decode cX5_broken 16 = .ok (.iload_n 1, 1) := by decide +kernel
theorem dX5_broken_17 : decode cX5_broken 17 = .ok (.ifCond .ne 10, 3) := by decide +kernel
theorem dX5_broken_20 : decode cX5_broken 20 = .ok (.aload_n 0, 1) := by decide +kernel
theorem dX5_broken_21 : decode cX5_broken 21 = .ok (.invokevirtual 209, 3) := by decide +kernel
theorem dX5_broken_24 : decode cX5_broken 24 = .ok (.goto 7, 3) := by decide +kernel
theorem dX5_broken_27 : decode cX5_broken 27 = .ok (.aload_n 0, 1) := by decide +kernel
theorem dX5_broken_28 : decode cX5_broken 28 = .ok (.invokevirtual 212, 3) := by decide +kernel
theorem dX5_broken_31 : decode cX5_broken 31 = .ok (.ireturn, 1) := by decide +kernel
theorem dX5_freeOf_0 : decode cX5_freeOf 0 = .ok (.iconst 0, 1) := by decide +kernel
theorem dX5_freeOf_1 : decode cX5_freeOf 1 = .ok (.istore_n 2, 1) := by decide +kernel
theorem dX5_freeOf_2 : decode cX5_freeOf 2 = .ok (.iconst 0, 1) := by decide +kernel
theorem dX5_freeOf_3 : decode cX5_freeOf 3 = .ok (.istore_n 3, 1) := by decide +kernel
theorem dX5_freeOf_4 : decode cX5_freeOf 4 = .ok (.iload_n 3, 1) := by decide +kernel
theorem dX5_freeOf_5 : decode cX5_freeOf 5 = .ok (.bipush 28, 2) := by decide +kernel
theorem dX5_freeOf_7 : decode cX5_freeOf 7 = .ok (.if_icmp .ge 31, 3) := by decide +kernel
theorem dX5_freeOf_10 : decode cX5_freeOf 10 = .ok (.iload_n 2, 1) := by decide +kernel
theorem dX5_freeOf_11 : decode cX5_freeOf 11 = .ok (.aload_n 0, 1) := by decide +kernel
theorem dX5_freeOf_12 : decode cX5_freeOf 12 = .ok (.iload_n 3, 1) := by decide +kernel
theorem dX5_freeOf_13 : decode cX5_freeOf 13 = .ok (.invokevirtual 206, 3) := by decide +kernel
theorem dX5_freeOf_16 : decode cX5_freeOf 16 = .ok (.iload_n 1, 1) := by decide +kernel
theorem dX5_freeOf_17 : decode cX5_freeOf 17 = .ok (.invokestatic 178, 3) := by decide +kernel
theorem dX5_freeOf_20 : decode cX5_freeOf 20 = .ok (.ifCond .eq 7, 3) := by decide +kernel
theorem dX5_freeOf_23 : decode cX5_freeOf 23 = .ok (.iconst 0, 1) := by decide +kernel
theorem dX5_freeOf_24 : decode cX5_freeOf 24 = .ok (.goto 6, 3) := by decide +kernel
theorem dX5_freeOf_27 : decode cX5_freeOf 27 = .ok (.iconst 1, 1) := by decide +kernel
theorem dX5_freeOf_28 : decode cX5_freeOf 28 = .ok (.iload_n 3, 1) := by decide +kernel
theorem dX5_freeOf_29 : decode cX5_freeOf 29 = .ok (.ishl, 1) := by decide +kernel
theorem dX5_freeOf_30 : decode cX5_freeOf 30 = .ok (.ior, 1) := by decide +kernel
theorem dX5_freeOf_31 : decode cX5_freeOf 31 = .ok (.istore_n 2, 1) := by decide +kernel
theorem dX5_freeOf_32 : decode cX5_freeOf 32 = .ok (.iinc 3 1, 3) := by decide +kernel
theorem dX5_freeOf_35 : decode cX5_freeOf 35 = .ok (.goto (-31), 3) := by decide +kernel
theorem dX5_freeOf_38 : decode cX5_freeOf 38 = .ok (.iload_n 2, 1) := by decide +kernel
theorem dX5_freeOf_39 : decode cX5_freeOf 39 = .ok (.ireturn, 1) := by decide +kernel
theorem dX5_free_0 : decode cX5_free 0 = .ok (.aload_n 0, 1) := by decide +kernel
theorem dX5_free_1 : decode cX5_free 1 = .ok (.invokevirtual 129, 3) := by decide +kernel
theorem dX5_free_4 : decode cX5_free 4 = .ok (.iload_n 1, 1) := by decide +kernel
theorem dX5_free_5 : decode cX5_free 5 = .ok (.invokestatic 145, 3) := by decide +kernel
theorem dX5_free_8 : decode cX5_free 8 = .ok (.ifCond .eq 11, 3) := by decide +kernel
theorem dX5_free_11 : decode cX5_free 11 = .ok (.aload_n 0, 1) := by decide +kernel
theorem dX5_free_12 : decode cX5_free 12 = .ok (.iload_n 1, 1) := by decide +kernel
theorem dX5_free_13 : decode cX5_free 13 = .ok (.invokevirtual 215, 3) := by decide +kernel
theorem dX5_free_16 : decode cX5_free 16 = .ok (.goto 5, 3) := by decide +kernel
theorem dX5_free_19 : decode cX5_free 19 = .ok (.bipush (-2), 2) := by decide +kernel
theorem dX5_free_21 : decode cX5_free 21 = .ok (.ireturn, 1) := by decide +kernel
theorem dX5_clashOf_0 : decode cX5_clashOf 0 = .ok (.aload_n 0, 1) := by decide +kernel
theorem dX5_clashOf_1 : decode cX5_clashOf 1 = .ok (.iload_n 1, 1) := by decide +kernel
theorem dX5_clashOf_2 : decode cX5_clashOf 2 = .ok (.invokevirtual 187, 3) := by decide +kernel
theorem dX5_clashOf_5 : decode cX5_clashOf 5 = .ok (.aload_n 0, 1) := by decide +kernel
theorem dX5_clashOf_6 : decode cX5_clashOf 6 = .ok (.invokevirtual 196, 3) := by decide +kernel
theorem dX5_clashOf_9 : decode cX5_clashOf 9 = .ok (.istore_n 2, 1) := by decide +kernel
theorem dX5_clashOf_10 : decode cX5_clashOf 10 = .ok (.iconst 0, 1) := by decide +kernel
theorem dX5_clashOf_11 : decode cX5_clashOf 11 = .ok (.istore_n 3, 1) := by decide +kernel
theorem dX5_clashOf_12 : decode cX5_clashOf 12 = .ok (.iload_n 3, 1) := by decide +kernel
theorem dX5_clashOf_13 : decode cX5_clashOf 13 = .ok (.aload_n 0, 1) := by decide +kernel
theorem dX5_clashOf_14 : decode cX5_clashOf 14 = .ok (.getfield 106, 3) := by decide +kernel
theorem dX5_clashOf_17 : decode cX5_clashOf 17 = .ok (.if_icmp .ge 103, 3) := by decide +kernel
theorem dX5_clashOf_20 : decode cX5_clashOf 20 = .ok (.iconst 0, 1) := by decide +kernel
theorem dX5_clashOf_21 : decode cX5_clashOf 21 = .ok (.istore 4, 2) := by decide +kernel
theorem dX5_clashOf_23 : decode cX5_clashOf 23 = .ok (.iload 4, 2) := by decide +kernel
theorem dX5_clashOf_25 : decode cX5_clashOf 25 = .ok (.iload_n 3, 1) := by decide +kernel
theorem dX5_clashOf_26 : decode cX5_clashOf 26 = .ok (.if_icmp .ge 88, 3) := by decide +kernel
theorem dX5_clashOf_29 : decode cX5_clashOf 29 = .ok (.iload_n 2, 1) := by decide +kernel
theorem dX5_clashOf_30 : decode cX5_clashOf 30 = .ok (.iload_n 3, 1) := by decide +kernel
theorem dX5_clashOf_31 : decode cX5_clashOf 31 = .ok (.invokestatic 178, 3) := by decide +kernel
theorem dX5_clashOf_34 : decode cX5_clashOf 34 = .ok (.ifCond .eq 40, 3) := by decide +kernel
theorem dX5_clashOf_37 : decode cX5_clashOf 37 = .ok (.iload_n 2, 1) := by decide +kernel
theorem dX5_clashOf_38 : decode cX5_clashOf 38 = .ok (.iload 4, 2) := by decide +kernel
theorem dX5_clashOf_40 : decode cX5_clashOf 40 = .ok (.invokestatic 178, 3) := by decide +kernel
theorem dX5_clashOf_43 : decode cX5_clashOf 43 = .ok (.ifCond .eq 31, 3) := by decide +kernel
theorem dX5_clashOf_46 : decode cX5_clashOf 46 = .ok (.aload_n 0, 1) := by decide +kernel
theorem dX5_clashOf_47 : decode cX5_clashOf 47 = .ok (.getfield 31, 3) := by decide +kernel
theorem dX5_clashOf_50 : decode cX5_clashOf 50 = .ok (.iconst 5, 1) := by decide +kernel
theorem dX5_clashOf_51 : decode cX5_clashOf 51 = .ok (.iload_n 3, 1) := by decide +kernel
theorem dX5_clashOf_52 : decode cX5_clashOf 52 = .ok (.imul, 1) := by decide +kernel
theorem dX5_clashOf_53 : decode cX5_clashOf 53 = .ok (.iconst 4, 1) := by decide +kernel
theorem dX5_clashOf_54 : decode cX5_clashOf 54 = .ok (.iadd, 1) := by decide +kernel
theorem dX5_clashOf_55 : decode cX5_clashOf 55 = .ok (.iaload, 1) := by decide +kernel
theorem dX5_clashOf_56 : decode cX5_clashOf 56 = .ok (.aload_n 0, 1) := by decide +kernel
theorem dX5_clashOf_57 : decode cX5_clashOf 57 = .ok (.getfield 31, 3) := by decide +kernel
theorem dX5_clashOf_60 : decode cX5_clashOf 60 = .ok (.iconst 5, 1) := by decide +kernel
theorem dX5_clashOf_61 : decode cX5_clashOf 61 = .ok (.iload 4, 2) := by decide +kernel
theorem dX5_clashOf_63 : decode cX5_clashOf 63 = .ok (.imul, 1) := by decide +kernel
theorem dX5_clashOf_64 : decode cX5_clashOf 64 = .ok (.iconst 4, 1) := by decide +kernel
theorem dX5_clashOf_65 : decode cX5_clashOf 65 = .ok (.iadd, 1) := by decide +kernel
theorem dX5_clashOf_66 : decode cX5_clashOf 66 = .ok (.iaload, 1) := by decide +kernel
theorem dX5_clashOf_67 : decode cX5_clashOf 67 = .ok (.if_icmp .ne 7, 3) := by decide +kernel
theorem dX5_clashOf_70 : decode cX5_clashOf 70 = .ok (.iconst 1, 1) := by decide +kernel
theorem dX5_clashOf_71 : decode cX5_clashOf 71 = .ok (.goto 4, 3) := by decide +kernel
theorem dX5_clashOf_74 : decode cX5_clashOf 74 = .ok (.iconst 0, 1) := by decide +kernel
theorem dX5_clashOf_75 : decode cX5_clashOf 75 = .ok (.istore 5, 2) := by decide +kernel
theorem dX5_clashOf_77 : decode cX5_clashOf 77 = .ok (.iload 5, 2) := by decide +kernel
theorem dX5_clashOf_79 : decode cX5_clashOf 79 = .ok (.ifCond .eq 29, 3) := by decide +kernel
theorem dX5_clashOf_82 : decode cX5_clashOf 82 = .ok (.aload_n 0, 1) := by decide +kernel
theorem dX5_clashOf_83 : decode cX5_clashOf 83 = .ok (.getfield 31, 3) := by decide +kernel
theorem dX5_clashOf_86 : decode cX5_clashOf 86 = .ok (.iconst 5, 1) := by decide +kernel
theorem dX5_clashOf_87 : decode cX5_clashOf 87 = .ok (.iload_n 3, 1) := by decide +kernel
theorem dX5_clashOf_88 : decode cX5_clashOf 88 = .ok (.imul, 1) := by decide +kernel
theorem dX5_clashOf_89 : decode cX5_clashOf 89 = .ok (.iconst 3, 1) := by decide +kernel
theorem dX5_clashOf_90 : decode cX5_clashOf 90 = .ok (.iadd, 1) := by decide +kernel
theorem dX5_clashOf_91 : decode cX5_clashOf 91 = .ok (.iaload, 1) := by decide +kernel
theorem dX5_clashOf_92 : decode cX5_clashOf 92 = .ok (.aload_n 0, 1) := by decide +kernel
theorem dX5_clashOf_93 : decode cX5_clashOf 93 = .ok (.getfield 31, 3) := by decide +kernel
theorem dX5_clashOf_96 : decode cX5_clashOf 96 = .ok (.iconst 5, 1) := by decide +kernel
theorem dX5_clashOf_97 : decode cX5_clashOf 97 = .ok (.iload 4, 2) := by decide +kernel
theorem dX5_clashOf_99 : decode cX5_clashOf 99 = .ok (.imul, 1) := by decide +kernel
theorem dX5_clashOf_100 : decode cX5_clashOf 100 = .ok (.iconst 3, 1) := by decide +kernel
theorem dX5_clashOf_101 : decode cX5_clashOf 101 = .ok (.iadd, 1) := by decide +kernel
theorem dX5_clashOf_102 : decode cX5_clashOf 102 = .ok (.iaload, 1) := by decide +kernel
theorem dX5_clashOf_103 : decode cX5_clashOf 103 = .ok (.if_icmp .eq 5, 3) := by decide +kernel
theorem dX5_clashOf_106 : decode cX5_clashOf 106 = .ok (.iload_n 3, 1) := by decide +kernel
theorem dX5_clashOf_107 : decode cX5_clashOf 107 = .ok (.ireturn, 1) := by decide +kernel
theorem dX5_clashOf_108 : decode cX5_clashOf 108 = .ok (.iinc 4 1, 3) := by decide +kernel
theorem dX5_clashOf_111 : decode cX5_clashOf 111 = .ok (.goto (-88), 3) := by decide +kernel
theorem dX5_clashOf_114 : decode cX5_clashOf 114 = .ok (.iinc 3 1, 3) := by decide +kernel
theorem dX5_clashOf_117 : decode cX5_clashOf 117 = .ok (.goto (-105), 3) := by decide +kernel
theorem dX5_clashOf_120 : decode cX5_clashOf 120 = .ok (.iconst (-1), 1) := by decide +kernel
theorem dX5_clashOf_121 : decode cX5_clashOf 121 = .ok (.ireturn, 1) := by decide +kernel
theorem dX5_clash_0 : decode cX5_clash 0 = .ok (.aload_n 0, 1) := by decide +kernel
theorem dX5_clash_1 : decode cX5_clash 1 = .ok (.invokevirtual 129, 3) := by decide +kernel
theorem dX5_clash_4 : decode cX5_clash 4 = .ok (.iload_n 1, 1) := by decide +kernel
theorem dX5_clash_5 : decode cX5_clash 5 = .ok (.invokestatic 193, 3) := by decide +kernel
theorem dX5_clash_8 : decode cX5_clash 8 = .ok (.ifCond .eq 11, 3) := by decide +kernel
theorem dX5_clash_11 : decode cX5_clash 11 = .ok (.aload_n 0, 1) := by decide +kernel
theorem dX5_clash_12 : decode cX5_clash 12 = .ok (.iload_n 1, 1) := by decide +kernel
theorem dX5_clash_13 : decode cX5_clash 13 = .ok (.invokevirtual 218, 3) := by decide +kernel
theorem dX5_clash_16 : decode cX5_clash 16 = .ok (.goto 5, 3) := by decide +kernel
theorem dX5_clash_19 : decode cX5_clash 19 = .ok (.bipush (-2), 2) := by decide +kernel
theorem dX5_clash_21 : decode cX5_clash 21 = .ok (.ireturn, 1) := by decide +kernel
theorem dX5_pourOf_0 : decode cX5_pourOf 0 = .ok (.iconst 0, 1) := by decide +kernel
theorem dX5_pourOf_1 : decode cX5_pourOf 1 = .ok (.istore_n 2, 1) := by decide +kernel
theorem dX5_pourOf_2 : decode cX5_pourOf 2 = .ok (.bipush (-9), 2) := by decide +kernel
theorem dX5_pourOf_4 : decode cX5_pourOf 4 = .ok (.istore_n 3, 1) := by decide +kernel
theorem dX5_pourOf_5 : decode cX5_pourOf 5 = .ok (.iconst 0, 1) := by decide +kernel
theorem dX5_pourOf_6 : decode cX5_pourOf 6 = .ok (.istore 4, 2) := by decide +kernel
theorem dX5_pourOf_8 : decode cX5_pourOf 8 = .ok (.iload 4, 2) := by decide +kernel
theorem dX5_pourOf_10 : decode cX5_pourOf 10 = .ok (.iconst 4, 1) := by decide +kernel
theorem dX5_pourOf_11 : decode cX5_pourOf 11 = .ok (.if_icmp .ge 62, 3) := by decide +kernel
theorem dX5_pourOf_14 : decode cX5_pourOf 14 = .ok (.aload_n 0, 1) := by decide +kernel
theorem dX5_pourOf_15 : decode cX5_pourOf 15 = .ok (.iload 4, 2) := by decide +kernel
theorem dX5_pourOf_17 : decode cX5_pourOf 17 = .ok (.invokevirtual 203, 3) := by decide +kernel
theorem dX5_pourOf_20 : decode cX5_pourOf 20 = .ok (.istore 5, 2) := by decide +kernel
theorem dX5_pourOf_22 : decode cX5_pourOf 22 = .ok (.iload 5, 2) := by decide +kernel
theorem dX5_pourOf_24 : decode cX5_pourOf 24 = .ok (.iload_n 1, 1) := by decide +kernel
theorem dX5_pourOf_25 : decode cX5_pourOf 25 = .ok (.iand, 1) := by decide +kernel
theorem dX5_pourOf_26 : decode cX5_pourOf 26 = .ok (.invokestatic 221, 3) := by decide +kernel
theorem dX5_pourOf_29 : decode cX5_pourOf 29 = .ok (.iload 5, 2) := by decide +kernel
theorem dX5_pourOf_31 : decode cX5_pourOf 31 = .ok (.iload_n 1, 1) := by decide +kernel
theorem dX5_pourOf_32 : decode cX5_pourOf 32 = .ok (.iconst (-1), 1) := by decide +kernel
theorem dX5_pourOf_33 : decode cX5_pourOf 33 = .ok (.ixor, 1) := by decide +kernel
theorem dX5_pourOf_34 : decode cX5_pourOf 34 = .ok (.iand, 1) := by decide +kernel
theorem dX5_pourOf_35 : decode cX5_pourOf 35 = .ok (.invokestatic 221, 3) := by decide +kernel
theorem dX5_pourOf_38 : decode cX5_pourOf 38 = .ok (.isub, 1) := by decide +kernel
theorem dX5_pourOf_39 : decode cX5_pourOf 39 = .ok (.istore 6, 2) := by decide +kernel
theorem dX5_pourOf_41 : decode cX5_pourOf 41 = .ok (.iload 6, 2) := by decide +kernel
theorem dX5_pourOf_43 : decode cX5_pourOf 43 = .ok (.iload_n 3, 1) := by decide +kernel
theorem dX5_pourOf_44 : decode cX5_pourOf 44 = .ok (.if_icmp .le 8, 3) := by decide +kernel
theorem dX5_pourOf_47 : decode cX5_pourOf 47 = .ok (.iload 4, 2) := by decide +kernel
theorem dX5_pourOf_49 : decode cX5_pourOf 49 = .ok (.goto 4, 3) := by decide +kernel
theorem dX5_pourOf_52 : decode cX5_pourOf 52 = .ok (.iload_n 2, 1) := by decide +kernel
theorem dX5_pourOf_53 : decode cX5_pourOf 53 = .ok (.istore_n 2, 1) := by decide +kernel
theorem dX5_pourOf_54 : decode cX5_pourOf 54 = .ok (.iload 6, 2) := by decide +kernel
theorem dX5_pourOf_56 : decode cX5_pourOf 56 = .ok (.iload_n 3, 1) := by decide +kernel
theorem dX5_pourOf_57 : decode cX5_pourOf 57 = .ok (.if_icmp .le 8, 3) := by decide +kernel
theorem dX5_pourOf_60 : decode cX5_pourOf 60 = .ok (.iload 6, 2) := by decide +kernel
theorem dX5_pourOf_62 : decode cX5_pourOf 62 = .ok (.goto 4, 3) := by decide +kernel
theorem dX5_pourOf_65 : decode cX5_pourOf 65 = .ok (.iload_n 3, 1) := by decide +kernel
theorem dX5_pourOf_66 : decode cX5_pourOf 66 = .ok (.istore_n 3, 1) := by decide +kernel
theorem dX5_pourOf_67 : decode cX5_pourOf 67 = .ok (.iinc 4 1, 3) := by decide +kernel
theorem dX5_pourOf_70 : decode cX5_pourOf 70 = .ok (.goto (-62), 3) := by decide +kernel
theorem dX5_pourOf_73 : decode cX5_pourOf 73 = .ok (.iload_n 2, 1) := by decide +kernel
theorem dX5_pourOf_74 : decode cX5_pourOf 74 = .ok (.ireturn, 1) := by decide +kernel
theorem dX5_pour_0 : decode cX5_pour 0 = .ok (.aload_n 0, 1) := by decide +kernel
theorem dX5_pour_1 : decode cX5_pour 1 = .ok (.invokevirtual 129, 3) := by decide +kernel
theorem dX5_pour_4 : decode cX5_pour 4 = .ok (.iload_n 1, 1) := by decide +kernel
theorem dX5_pour_5 : decode cX5_pour 5 = .ok (.invokestatic 224, 3) := by decide +kernel
theorem dX5_pour_8 : decode cX5_pour 8 = .ok (.ifCond .eq 11, 3) := by decide +kernel
theorem dX5_pour_11 : decode cX5_pour 11 = .ok (.aload_n 0, 1) := by decide +kernel
theorem dX5_pour_12 : decode cX5_pour 12 = .ok (.iload_n 1, 1) := by decide +kernel
theorem dX5_pour_13 : decode cX5_pour 13 = .ok (.invokevirtual 227, 3) := by decide +kernel
theorem dX5_pour_16 : decode cX5_pour 16 = .ok (.goto 5, 3) := by decide +kernel
theorem dX5_pour_19 : decode cX5_pour 19 = .ok (.bipush (-2), 2) := by decide +kernel
theorem dX5_pour_21 : decode cX5_pour 21 = .ok (.ireturn, 1) := by decide +kernel
theorem dX5_tells_0 : decode cX5_tells 0 = .ok (.iload_n 0, 1) := by decide +kernel
theorem dX5_tells_1 : decode cX5_tells 1 = .ok (.iconst (-1), 1) := by decide +kernel
theorem dX5_tells_2 : decode cX5_tells 2 = .ok (.if_icmp .eq 8, 3) := by decide +kernel
theorem dX5_tells_5 : decode cX5_tells 5 = .ok (.iload_n 1, 1) := by decide +kernel
theorem dX5_tells_6 : decode cX5_tells 6 = .ok (.iconst 1, 1) := by decide +kernel
theorem dX5_tells_7 : decode cX5_tells 7 = .ok (.if_icmp .ne 7, 3) := by decide +kernel
theorem dX5_tells_10 : decode cX5_tells 10 = .ok (.iload_n 0, 1) := by decide +kernel
theorem dX5_tells_11 : decode cX5_tells 11 = .ok (.goto 7, 3) := by decide +kernel
theorem dX5_tells_14 : decode cX5_tells 14 = .ok (.iload_n 0, 1) := by decide +kernel
theorem dX5_tells_15 : decode cX5_tells 15 = .ok (.invokestatic 221, 3) := by decide +kernel
theorem dX5_tells_18 : decode cX5_tells 18 = .ok (.ireturn, 1) := by decide +kernel
theorem dX5_strainOf_0 : decode cX5_strainOf 0 = .ok (.aload_n 0, 1) := by decide +kernel
theorem dX5_strainOf_1 : decode cX5_strainOf 1 = .ok (.iload_n 1, 1) := by decide +kernel
theorem dX5_strainOf_2 : decode cX5_strainOf 2 = .ok (.invokevirtual 187, 3) := by decide +kernel
theorem dX5_strainOf_5 : decode cX5_strainOf 5 = .ok (.iconst (-1), 1) := by decide +kernel
theorem dX5_strainOf_6 : decode cX5_strainOf 6 = .ok (.istore 4, 2) := by decide +kernel
theorem dX5_strainOf_8 : decode cX5_strainOf 8 = .ok (.iconst 0, 1) := by decide +kernel
theorem dX5_strainOf_9 : decode cX5_strainOf 9 = .ok (.istore 5, 2) := by decide +kernel
theorem dX5_strainOf_11 : decode cX5_strainOf 11 = .ok (.iload 5, 2) := by decide +kernel
theorem dX5_strainOf_13 : decode cX5_strainOf 13 = .ok (.iconst 1, 1) := by decide +kernel
theorem dX5_strainOf_14 : decode cX5_strainOf 14 = .ok (.aload_n 0, 1) := by decide +kernel
theorem dX5_strainOf_15 : decode cX5_strainOf 15 = .ok (.getfield 103, 3) := by decide +kernel
theorem dX5_strainOf_18 : decode cX5_strainOf 18 = .ok (.ishl, 1) := by decide +kernel
theorem dX5_strainOf_19 : decode cX5_strainOf 19 = .ok (.if_icmp .ge 67, 3) := by decide +kernel
theorem dX5_strainOf_22 : decode cX5_strainOf 22 = .ok (.iload 4, 2) := by decide +kernel
theorem dX5_strainOf_24 : decode cX5_strainOf 24 = .ok (.iconst (-1), 1) := by decide +kernel
theorem dX5_strainOf_25 : decode cX5_strainOf 25 = .ok (.if_icmp .eq 16, 3) := by decide +kernel
theorem dX5_strainOf_28 : decode cX5_strainOf 28 = .ok (.iload 5, 2) := by decide +kernel
theorem dX5_strainOf_30 : decode cX5_strainOf 30 = .ok (.invokestatic 221, 3) := by decide +kernel
theorem dX5_strainOf_33 : decode cX5_strainOf 33 = .ok (.iload 4, 2) := by decide +kernel
theorem dX5_strainOf_35 : decode cX5_strainOf 35 = .ok (.invokestatic 221, 3) := by decide +kernel
theorem dX5_strainOf_38 : decode cX5_strainOf 38 = .ok (.if_icmp .ge 42, 3) := by decide +kernel
theorem dX5_strainOf_41 : decode cX5_strainOf 41 = .ok (.aload_n 0, 1) := by decide +kernel
theorem dX5_strainOf_42 : decode cX5_strainOf 42 = .ok (.aload_n 0, 1) := by decide +kernel
theorem dX5_strainOf_43 : decode cX5_strainOf 43 = .ok (.getfield 161, 3) := by decide +kernel
theorem dX5_strainOf_46 : decode cX5_strainOf 46 = .ok (.iload 5, 2) := by decide +kernel
theorem dX5_strainOf_48 : decode cX5_strainOf 48 = .ok (.iconst (-1), 1) := by decide +kernel
theorem dX5_strainOf_49 : decode cX5_strainOf 49 = .ok (.ixor, 1) := by decide +kernel
theorem dX5_strainOf_50 : decode cX5_strainOf 50 = .ok (.iand, 1) := by decide +kernel
theorem dX5_strainOf_51 : decode cX5_strainOf 51 = .ok (.invokevirtual 190, 3) := by decide +kernel
theorem dX5_strainOf_54 : decode cX5_strainOf 54 = .ok (.istore 6, 2) := by decide +kernel
theorem dX5_strainOf_56 : decode cX5_strainOf 56 = .ok (.iload 6, 2) := by decide +kernel
theorem dX5_strainOf_58 : decode cX5_strainOf 58 = .ok (.iload_n 2, 1) := by decide +kernel
theorem dX5_strainOf_59 : decode cX5_strainOf 59 = .ok (.iand, 1) := by decide +kernel
theorem dX5_strainOf_60 : decode cX5_strainOf 60 = .ok (.iload_n 2, 1) := by decide +kernel
theorem dX5_strainOf_61 : decode cX5_strainOf 61 = .ok (.if_icmp .ne 15, 3) := by decide +kernel
theorem dX5_strainOf_64 : decode cX5_strainOf 64 = .ok (.iload 6, 2) := by decide +kernel
theorem dX5_strainOf_66 : decode cX5_strainOf 66 = .ok (.iload_n 3, 1) := by decide +kernel
theorem dX5_strainOf_67 : decode cX5_strainOf 67 = .ok (.iand, 1) := by decide +kernel
theorem dX5_strainOf_68 : decode cX5_strainOf 68 = .ok (.ifCond .ne 8, 3) := by decide +kernel
theorem dX5_strainOf_71 : decode cX5_strainOf 71 = .ok (.iload 5, 2) := by decide +kernel
theorem dX5_strainOf_73 : decode cX5_strainOf 73 = .ok (.goto 5, 3) := by decide +kernel
theorem dX5_strainOf_76 : decode cX5_strainOf 76 = .ok (.iload 4, 2) := by decide +kernel
theorem dX5_strainOf_78 : decode cX5_strainOf 78 = .ok (.istore 4, 2) := by decide +kernel
theorem dX5_strainOf_80 : decode cX5_strainOf 80 = .ok (.iinc 5 1, 3) := by decide +kernel
theorem dX5_strainOf_83 : decode cX5_strainOf 83 = .ok (.goto (-72), 3) := by decide +kernel
theorem dX5_strainOf_86 : decode cX5_strainOf 86 = .ok (.iload 4, 2) := by decide +kernel
theorem dX5_strainOf_88 : decode cX5_strainOf 88 = .ok (.ireturn, 1) := by decide +kernel
theorem dX5_strain_0 : decode cX5_strain 0 = .ok (.aload_n 0, 1) := by decide +kernel
theorem dX5_strain_1 : decode cX5_strain 1 = .ok (.invokevirtual 129, 3) := by decide +kernel
theorem dX5_strain_4 : decode cX5_strain 4 = .ok (.iload_n 1, 1) := by decide +kernel
theorem dX5_strain_5 : decode cX5_strain 5 = .ok (.invokestatic 193, 3) := by decide +kernel
theorem dX5_strain_8 : decode cX5_strain 8 = .ok (.ifCond .eq 35, 3) := by decide +kernel
theorem dX5_strain_11 : decode cX5_strain 11 = .ok (.iload_n 2, 1) := by decide +kernel
theorem dX5_strain_12 : decode cX5_strain 12 = .ok (.invokestatic 224, 3) := by decide +kernel
theorem dX5_strain_15 : decode cX5_strain 15 = .ok (.ifCond .eq 28, 3) := by decide +kernel
theorem dX5_strain_18 : decode cX5_strain 18 = .ok (.iload_n 3, 1) := by decide +kernel
theorem dX5_strain_19 : decode cX5_strain 19 = .ok (.invokestatic 224, 3) := by decide +kernel
theorem dX5_strain_22 : decode cX5_strain 22 = .ok (.ifCond .eq 21, 3) := by decide +kernel
theorem dX5_strain_25 : decode cX5_strain 25 = .ok (.iload_n 2, 1) := by decide +kernel
theorem dX5_strain_26 : decode cX5_strain 26 = .ok (.iload_n 3, 1) := by decide +kernel
theorem dX5_strain_27 : decode cX5_strain 27 = .ok (.iand, 1) := by decide +kernel
theorem dX5_strain_28 : decode cX5_strain 28 = .ok (.ifCond .ne 15, 3) := by decide +kernel
theorem dX5_strain_31 : decode cX5_strain 31 = .ok (.iload 4, 2) := by decide +kernel
theorem dX5_strain_33 : decode cX5_strain 33 = .ok (.invokestatic 89, 3) := by decide +kernel
theorem dX5_strain_36 : decode cX5_strain 36 = .ok (.ifCond .eq 7, 3) := by decide +kernel
theorem dX5_strain_39 : decode cX5_strain 39 = .ok (.iconst 1, 1) := by decide +kernel
theorem dX5_strain_40 : decode cX5_strain 40 = .ok (.goto 4, 3) := by decide +kernel
theorem dX5_strain_43 : decode cX5_strain 43 = .ok (.iconst 0, 1) := by decide +kernel
theorem dX5_strain_44 : decode cX5_strain 44 = .ok (.istore 5, 2) := by decide +kernel
theorem dX5_strain_46 : decode cX5_strain 46 = .ok (.iload 5, 2) := by decide +kernel
theorem dX5_strain_48 : decode cX5_strain 48 = .ok (.ifCond .eq 18, 3) := by decide +kernel
theorem dX5_strain_51 : decode cX5_strain 51 = .ok (.aload_n 0, 1) := by decide +kernel
theorem dX5_strain_52 : decode cX5_strain 52 = .ok (.iload_n 1, 1) := by decide +kernel
theorem dX5_strain_53 : decode cX5_strain 53 = .ok (.iload_n 2, 1) := by decide +kernel
theorem dX5_strain_54 : decode cX5_strain 54 = .ok (.iload_n 3, 1) := by decide +kernel
theorem dX5_strain_55 : decode cX5_strain 55 = .ok (.invokevirtual 230, 3) := by decide +kernel
theorem dX5_strain_58 : decode cX5_strain 58 = .ok (.iload 4, 2) := by decide +kernel
theorem dX5_strain_60 : decode cX5_strain 60 = .ok (.invokestatic 233, 3) := by decide +kernel
theorem dX5_strain_63 : decode cX5_strain 63 = .ok (.goto 5, 3) := by decide +kernel
theorem dX5_strain_66 : decode cX5_strain 66 = .ok (.bipush (-2), 2) := by decide +kernel
theorem dX5_strain_68 : decode cX5_strain 68 = .ok (.ireturn, 1) := by decide +kernel
theorem dX5_strikeOf_0 : decode cX5_strikeOf 0 = .ok (.aload_n 0, 1) := by decide +kernel
theorem dX5_strikeOf_1 : decode cX5_strikeOf 1 = .ok (.iload_n 1, 1) := by decide +kernel
theorem dX5_strikeOf_2 : decode cX5_strikeOf 2 = .ok (.invokevirtual 187, 3) := by decide +kernel
theorem dX5_strikeOf_5 : decode cX5_strikeOf 5 = .ok (.iconst (-1), 1) := by decide +kernel
theorem dX5_strikeOf_6 : decode cX5_strikeOf 6 = .ok (.istore_n 3, 1) := by decide +kernel
theorem dX5_strikeOf_7 : decode cX5_strikeOf 7 = .ok (.iconst 0, 1) := by decide +kernel
theorem dX5_strikeOf_8 : decode cX5_strikeOf 8 = .ok (.istore 4, 2) := by decide +kernel
theorem dX5_strikeOf_10 : decode cX5_strikeOf 10 = .ok (.iload 4, 2) := by decide +kernel
theorem dX5_strikeOf_12 : decode cX5_strikeOf 12 = .ok (.iconst 1, 1) := by decide +kernel
theorem dX5_strikeOf_13 : decode cX5_strikeOf 13 = .ok (.aload_n 0, 1) := by decide +kernel
theorem dX5_strikeOf_14 : decode cX5_strikeOf 14 = .ok (.getfield 106, 3) := by decide +kernel
theorem dX5_strikeOf_17 : decode cX5_strikeOf 17 = .ok (.ishl, 1) := by decide +kernel
theorem dX5_strikeOf_18 : decode cX5_strikeOf 18 = .ok (.if_icmp .ge 51, 3) := by decide +kernel
theorem dX5_strikeOf_21 : decode cX5_strikeOf 21 = .ok (.iload_n 3, 1) := by decide +kernel
theorem dX5_strikeOf_22 : decode cX5_strikeOf 22 = .ok (.iconst (-1), 1) := by decide +kernel
theorem dX5_strikeOf_23 : decode cX5_strikeOf 23 = .ok (.if_icmp .eq 15, 3) := by decide +kernel
theorem dX5_strikeOf_26 : decode cX5_strikeOf 26 = .ok (.iload 4, 2) := by decide +kernel
theorem dX5_strikeOf_28 : decode cX5_strikeOf 28 = .ok (.invokestatic 221, 3) := by decide +kernel
theorem dX5_strikeOf_31 : decode cX5_strikeOf 31 = .ok (.iload_n 3, 1) := by decide +kernel
theorem dX5_strikeOf_32 : decode cX5_strikeOf 32 = .ok (.invokestatic 221, 3) := by decide +kernel
theorem dX5_strikeOf_35 : decode cX5_strikeOf 35 = .ok (.if_icmp .ge 28, 3) := by decide +kernel
theorem dX5_strikeOf_38 : decode cX5_strikeOf 38 = .ok (.aload_n 0, 1) := by decide +kernel
theorem dX5_strikeOf_39 : decode cX5_strikeOf 39 = .ok (.iload 4, 2) := by decide +kernel
theorem dX5_strikeOf_41 : decode cX5_strikeOf 41 = .ok (.putfield 181, 3) := by decide +kernel
theorem dX5_strikeOf_44 : decode cX5_strikeOf 44 = .ok (.aload_n 0, 1) := by decide +kernel
theorem dX5_strikeOf_45 : decode cX5_strikeOf 45 = .ok (.aload_n 0, 1) := by decide +kernel
theorem dX5_strikeOf_46 : decode cX5_strikeOf 46 = .ok (.getfield 161, 3) := by decide +kernel
theorem dX5_strikeOf_49 : decode cX5_strikeOf 49 = .ok (.invokevirtual 190, 3) := by decide +kernel
theorem dX5_strikeOf_52 : decode cX5_strikeOf 52 = .ok (.iload_n 2, 1) := by decide +kernel
theorem dX5_strikeOf_53 : decode cX5_strikeOf 53 = .ok (.if_icmp .ne 8, 3) := by decide +kernel
theorem dX5_strikeOf_56 : decode cX5_strikeOf 56 = .ok (.iload 4, 2) := by decide +kernel
theorem dX5_strikeOf_58 : decode cX5_strikeOf 58 = .ok (.goto 4, 3) := by decide +kernel
theorem dX5_strikeOf_61 : decode cX5_strikeOf 61 = .ok (.iload_n 3, 1) := by decide +kernel
theorem dX5_strikeOf_62 : decode cX5_strikeOf 62 = .ok (.istore_n 3, 1) := by decide +kernel
theorem dX5_strikeOf_63 : decode cX5_strikeOf 63 = .ok (.iinc 4 1, 3) := by decide +kernel
theorem dX5_strikeOf_66 : decode cX5_strikeOf 66 = .ok (.goto (-56), 3) := by decide +kernel
theorem dX5_strikeOf_69 : decode cX5_strikeOf 69 = .ok (.aload_n 0, 1) := by decide +kernel
theorem dX5_strikeOf_70 : decode cX5_strikeOf 70 = .ok (.iconst 0, 1) := by decide +kernel
theorem dX5_strikeOf_71 : decode cX5_strikeOf 71 = .ok (.putfield 181, 3) := by decide +kernel
theorem dX5_strikeOf_74 : decode cX5_strikeOf 74 = .ok (.iload_n 3, 1) := by decide +kernel
theorem dX5_strikeOf_75 : decode cX5_strikeOf 75 = .ok (.ireturn, 1) := by decide +kernel
theorem dX5_strike_0 : decode cX5_strike 0 = .ok (.aload_n 0, 1) := by decide +kernel
theorem dX5_strike_1 : decode cX5_strike 1 = .ok (.invokevirtual 129, 3) := by decide +kernel
theorem dX5_strike_4 : decode cX5_strike 4 = .ok (.iload_n 1, 1) := by decide +kernel
theorem dX5_strike_5 : decode cX5_strike 5 = .ok (.invokestatic 193, 3) := by decide +kernel
theorem dX5_strike_8 : decode cX5_strike 8 = .ok (.ifCond .eq 30, 3) := by decide +kernel
theorem dX5_strike_11 : decode cX5_strike 11 = .ok (.iload_n 2, 1) := by decide +kernel
theorem dX5_strike_12 : decode cX5_strike 12 = .ok (.invokestatic 224, 3) := by decide +kernel
theorem dX5_strike_15 : decode cX5_strike 15 = .ok (.ifCond .eq 23, 3) := by decide +kernel
theorem dX5_strike_18 : decode cX5_strike 18 = .ok (.iload_n 3, 1) := by decide +kernel
theorem dX5_strike_19 : decode cX5_strike 19 = .ok (.invokestatic 89, 3) := by decide +kernel
theorem dX5_strike_22 : decode cX5_strike 22 = .ok (.ifCond .eq 16, 3) := by decide +kernel
theorem dX5_strike_25 : decode cX5_strike 25 = .ok (.aload_n 0, 1) := by decide +kernel
theorem dX5_strike_26 : decode cX5_strike 26 = .ok (.iload_n 1, 1) := by decide +kernel
theorem dX5_strike_27 : decode cX5_strike 27 = .ok (.iload_n 2, 1) := by decide +kernel
theorem dX5_strike_28 : decode cX5_strike 28 = .ok (.invokevirtual 236, 3) := by decide +kernel
theorem dX5_strike_31 : decode cX5_strike 31 = .ok (.iload_n 3, 1) := by decide +kernel
theorem dX5_strike_32 : decode cX5_strike 32 = .ok (.invokestatic 233, 3) := by decide +kernel
theorem dX5_strike_35 : decode cX5_strike 35 = .ok (.goto 5, 3) := by decide +kernel
theorem dX5_strike_38 : decode cX5_strike 38 = .ok (.bipush (-2), 2) := by decide +kernel
theorem dX5_strike_40 : decode cX5_strike 40 = .ok (.ireturn, 1) := by decide +kernel
theorem dX5_isFree_0 : decode cX5_isFree 0 = .ok (.iconst 1, 1) := by decide +kernel
theorem dX5_isFree_1 : decode cX5_isFree 1 = .ok (.istore_n 3, 1) := by decide +kernel
theorem dX5_isFree_2 : decode cX5_isFree 2 = .ok (.iconst 0, 1) := by decide +kernel
theorem dX5_isFree_3 : decode cX5_isFree 3 = .ok (.istore 4, 2) := by decide +kernel
theorem dX5_isFree_5 : decode cX5_isFree 5 = .ok (.iload 4, 2) := by decide +kernel
theorem dX5_isFree_7 : decode cX5_isFree 7 = .ok (.aload_n 0, 1) := by decide +kernel
theorem dX5_isFree_8 : decode cX5_isFree 8 = .ok (.getfield 103, 3) := by decide +kernel
theorem dX5_isFree_11 : decode cX5_isFree 11 = .ok (.if_icmp .ge 41, 3) := by decide +kernel
theorem dX5_isFree_14 : decode cX5_isFree 14 = .ok (.iload_n 3, 1) := by decide +kernel
theorem dX5_isFree_15 : decode cX5_isFree 15 = .ok (.ifCond .eq 29, 3) := by decide +kernel
theorem dX5_isFree_18 : decode cX5_isFree 18 = .ok (.aload_n 0, 1) := by decide +kernel
theorem dX5_isFree_19 : decode cX5_isFree 19 = .ok (.getfield 43, 3) := by decide +kernel
theorem dX5_isFree_22 : decode cX5_isFree 22 = .ok (.iload 4, 2) := by decide +kernel
theorem dX5_isFree_24 : decode cX5_isFree 24 = .ok (.iaload, 1) := by decide +kernel
theorem dX5_isFree_25 : decode cX5_isFree 25 = .ok (.iload_n 1, 1) := by decide +kernel
theorem dX5_isFree_26 : decode cX5_isFree 26 = .ok (.if_icmp .ne 14, 3) := by decide +kernel
theorem dX5_isFree_29 : decode cX5_isFree 29 = .ok (.aload_n 0, 1) := by decide +kernel
theorem dX5_isFree_30 : decode cX5_isFree 30 = .ok (.getfield 46, 3) := by decide +kernel
theorem dX5_isFree_33 : decode cX5_isFree 33 = .ok (.iload 4, 2) := by decide +kernel
theorem dX5_isFree_35 : decode cX5_isFree 35 = .ok (.iaload, 1) := by decide +kernel
theorem dX5_isFree_36 : decode cX5_isFree 36 = .ok (.iload_n 2, 1) := by decide +kernel
theorem dX5_isFree_37 : decode cX5_isFree 37 = .ok (.if_icmp .eq 7, 3) := by decide +kernel
theorem dX5_isFree_40 : decode cX5_isFree 40 = .ok (.iconst 1, 1) := by decide +kernel
theorem dX5_isFree_41 : decode cX5_isFree 41 = .ok (.goto 4, 3) := by decide +kernel
theorem dX5_isFree_44 : decode cX5_isFree 44 = .ok (.iconst 0, 1) := by decide +kernel
theorem dX5_isFree_45 : decode cX5_isFree 45 = .ok (.istore_n 3, 1) := by decide +kernel
theorem dX5_isFree_46 : decode cX5_isFree 46 = .ok (.iinc 4 1, 3) := by decide +kernel
theorem dX5_isFree_49 : decode cX5_isFree 49 = .ok (.goto (-44), 3) := by decide +kernel
theorem dX5_isFree_52 : decode cX5_isFree 52 = .ok (.iload_n 3, 1) := by decide +kernel
theorem dX5_isFree_53 : decode cX5_isFree 53 = .ok (.ireturn, 1) := by decide +kernel
theorem dX5_placeOf_0 : decode cX5_placeOf 0 = .ok (.aload_n 0, 1) := by decide +kernel
theorem dX5_placeOf_1 : decode cX5_placeOf 1 = .ok (.iload_n 1, 1) := by decide +kernel
theorem dX5_placeOf_2 : decode cX5_placeOf 2 = .ok (.invokevirtual 203, 3) := by decide +kernel
theorem dX5_placeOf_5 : decode cX5_placeOf 5 = .ok (.iload_n 2, 1) := by decide +kernel
theorem dX5_placeOf_6 : decode cX5_placeOf 6 = .ok (.invokestatic 178, 3) := by decide +kernel
theorem dX5_placeOf_9 : decode cX5_placeOf 9 = .ok (.istore_n 3, 1) := by decide +kernel
theorem dX5_placeOf_10 : decode cX5_placeOf 10 = .ok (.iconst 0, 1) := by decide +kernel
theorem dX5_placeOf_11 : decode cX5_placeOf 11 = .ok (.istore 4, 2) := by decide +kernel
theorem dX5_placeOf_13 : decode cX5_placeOf 13 = .ok (.iload 4, 2) := by decide +kernel
theorem dX5_placeOf_15 : decode cX5_placeOf 15 = .ok (.bipush 108, 2) := by decide +kernel
theorem dX5_placeOf_17 : decode cX5_placeOf 17 = .ok (.if_icmp .ge 110, 3) := by decide +kernel
theorem dX5_placeOf_20 : decode cX5_placeOf 20 = .ok (.iload 4, 2) := by decide +kernel
theorem dX5_placeOf_22 : decode cX5_placeOf 22 = .ok (.bipush 6, 2) := by decide +kernel
theorem dX5_placeOf_24 : decode cX5_placeOf 24 = .ok (.irem, 1) := by decide +kernel
theorem dX5_placeOf_25 : decode cX5_placeOf 25 = .ok (.istore 5, 2) := by decide +kernel
theorem dX5_placeOf_27 : decode cX5_placeOf 27 = .ok (.iload 4, 2) := by decide +kernel
theorem dX5_placeOf_29 : decode cX5_placeOf 29 = .ok (.bipush 6, 2) := by decide +kernel
theorem dX5_placeOf_31 : decode cX5_placeOf 31 = .ok (.idiv, 1) := by decide +kernel
theorem dX5_placeOf_32 : decode cX5_placeOf 32 = .ok (.bipush 6, 2) := by decide +kernel
theorem dX5_placeOf_34 : decode cX5_placeOf 34 = .ok (.irem, 1) := by decide +kernel
theorem dX5_placeOf_35 : decode cX5_placeOf 35 = .ok (.istore 6, 2) := by decide +kernel
theorem dX5_placeOf_37 : decode cX5_placeOf 37 = .ok (.aload_n 0, 1) := by decide +kernel
theorem dX5_placeOf_38 : decode cX5_placeOf 38 = .ok (.iload 5, 2) := by decide +kernel
theorem dX5_placeOf_40 : decode cX5_placeOf 40 = .ok (.iload 6, 2) := by decide +kernel
theorem dX5_placeOf_42 : decode cX5_placeOf 42 = .ok (.invokevirtual 239, 3) := by decide +kernel
theorem dX5_placeOf_45 : decode cX5_placeOf 45 = .ok (.ifCond .eq 76, 3) := by decide +kernel
theorem dX5_placeOf_48 : decode cX5_placeOf 48 = .ok (.aload_n 0, 1) := by decide +kernel
theorem dX5_placeOf_49 : decode cX5_placeOf 49 = .ok (.getfield 28, 3) := by decide +kernel
theorem dX5_placeOf_52 : decode cX5_placeOf 52 = .ok (.iconst 3, 1) := by decide +kernel
theorem dX5_placeOf_53 : decode cX5_placeOf 53 = .ok (.aload_n 0, 1) := by decide +kernel
theorem dX5_placeOf_54 : decode cX5_placeOf 54 = .ok (.getfield 103, 3) := by decide +kernel
theorem dX5_placeOf_57 : decode cX5_placeOf 57 = .ok (.imul, 1) := by decide +kernel
theorem dX5_placeOf_58 : decode cX5_placeOf 58 = .ok (.iconst 2, 1) := by decide +kernel
theorem dX5_placeOf_59 : decode cX5_placeOf 59 = .ok (.iadd, 1) := by decide +kernel
theorem dX5_placeOf_60 : decode cX5_placeOf 60 = .ok (.iload 4, 2) := by decide +kernel
theorem dX5_placeOf_62 : decode cX5_placeOf 62 = .ok (.bipush 36, 2) := by decide +kernel
theorem dX5_placeOf_64 : decode cX5_placeOf 64 = .ok (.idiv, 1) := by decide +kernel
theorem dX5_placeOf_65 : decode cX5_placeOf 65 = .ok (.iastore, 1) := by decide +kernel
theorem dX5_placeOf_66 : decode cX5_placeOf 66 = .ok (.aload_n 0, 1) := by decide +kernel
theorem dX5_placeOf_67 : decode cX5_placeOf 67 = .ok (.getfield 43, 3) := by decide +kernel
theorem dX5_placeOf_70 : decode cX5_placeOf 70 = .ok (.aload_n 0, 1) := by decide +kernel
theorem dX5_placeOf_71 : decode cX5_placeOf 71 = .ok (.getfield 103, 3) := by decide +kernel
theorem dX5_placeOf_74 : decode cX5_placeOf 74 = .ok (.iload 5, 2) := by decide +kernel
theorem dX5_placeOf_76 : decode cX5_placeOf 76 = .ok (.iastore, 1) := by decide +kernel
theorem dX5_placeOf_77 : decode cX5_placeOf 77 = .ok (.aload_n 0, 1) := by decide +kernel
theorem dX5_placeOf_78 : decode cX5_placeOf 78 = .ok (.getfield 46, 3) := by decide +kernel
theorem dX5_placeOf_81 : decode cX5_placeOf 81 = .ok (.aload_n 0, 1) := by decide +kernel
theorem dX5_placeOf_82 : decode cX5_placeOf 82 = .ok (.getfield 103, 3) := by decide +kernel
theorem dX5_placeOf_85 : decode cX5_placeOf 85 = .ok (.iload 6, 2) := by decide +kernel
theorem dX5_placeOf_87 : decode cX5_placeOf 87 = .ok (.iastore, 1) := by decide +kernel
theorem dX5_placeOf_88 : decode cX5_placeOf 88 = .ok (.aload_n 0, 1) := by decide +kernel
theorem dX5_placeOf_89 : decode cX5_placeOf 89 = .ok (.aload_n 0, 1) := by decide +kernel
theorem dX5_placeOf_90 : decode cX5_placeOf 90 = .ok (.getfield 103, 3) := by decide +kernel
theorem dX5_placeOf_93 : decode cX5_placeOf 93 = .ok (.iconst 1, 1) := by decide +kernel
theorem dX5_placeOf_94 : decode cX5_placeOf 94 = .ok (.iadd, 1) := by decide +kernel
theorem dX5_placeOf_95 : decode cX5_placeOf 95 = .ok (.putfield 154, 3) := by decide +kernel
theorem dX5_placeOf_98 : decode cX5_placeOf 98 = .ok (.aload_n 0, 1) := by decide +kernel
theorem dX5_placeOf_99 : decode cX5_placeOf 99 = .ok (.invokevirtual 175, 3) := by decide +kernel
theorem dX5_placeOf_102 : decode cX5_placeOf 102 = .ok (.aload_n 0, 1) := by decide +kernel
theorem dX5_placeOf_103 : decode cX5_placeOf 103 = .ok (.aload_n 0, 1) := by decide +kernel
theorem dX5_placeOf_104 : decode cX5_placeOf 104 = .ok (.getfield 161, 3) := by decide +kernel
theorem dX5_placeOf_107 : decode cX5_placeOf 107 = .ok (.invokevirtual 190, 3) := by decide +kernel
theorem dX5_placeOf_110 : decode cX5_placeOf 110 = .ok (.iload_n 2, 1) := by decide +kernel
theorem dX5_placeOf_111 : decode cX5_placeOf 111 = .ok (.invokestatic 178, 3) := by decide +kernel
theorem dX5_placeOf_114 : decode cX5_placeOf 114 = .ok (.iload_n 3, 1) := by decide +kernel
theorem dX5_placeOf_115 : decode cX5_placeOf 115 = .ok (.if_icmp .eq 6, 3) := by decide +kernel
theorem dX5_placeOf_118 : decode cX5_placeOf 118 = .ok (.iload 4, 2) := by decide +kernel
theorem dX5_placeOf_120 : decode cX5_placeOf 120 = .ok (.ireturn, 1) := by decide +kernel
theorem dX5_placeOf_121 : decode cX5_placeOf 121 = .ok (.iinc 4 1, 3) := by decide +kernel
theorem dX5_placeOf_124 : decode cX5_placeOf 124 = .ok (.goto (-111), 3) := by decide +kernel
theorem dX5_placeOf_127 : decode cX5_placeOf 127 = .ok (.iconst (-1), 1) := by decide +kernel
theorem dX5_placeOf_128 : decode cX5_placeOf 128 = .ok (.ireturn, 1) := by decide +kernel
theorem dX5_place_0 : decode cX5_place 0 = .ok (.aload_n 0, 1) := by decide +kernel
theorem dX5_place_1 : decode cX5_place 1 = .ok (.invokevirtual 129, 3) := by decide +kernel
theorem dX5_place_4 : decode cX5_place 4 = .ok (.iload_n 1, 1) := by decide +kernel
theorem dX5_place_5 : decode cX5_place 5 = .ok (.invokestatic 193, 3) := by decide +kernel
theorem dX5_place_8 : decode cX5_place 8 = .ok (.ifCond .eq 19, 3) := by decide +kernel
theorem dX5_place_11 : decode cX5_place 11 = .ok (.iload_n 2, 1) := by decide +kernel
theorem dX5_place_12 : decode cX5_place 12 = .ok (.invokestatic 145, 3) := by decide +kernel
theorem dX5_place_15 : decode cX5_place 15 = .ok (.ifCond .eq 12, 3) := by decide +kernel
theorem dX5_place_18 : decode cX5_place 18 = .ok (.aload_n 0, 1) := by decide +kernel
theorem dX5_place_19 : decode cX5_place 19 = .ok (.iload_n 1, 1) := by decide +kernel
theorem dX5_place_20 : decode cX5_place 20 = .ok (.iload_n 2, 1) := by decide +kernel
theorem dX5_place_21 : decode cX5_place 21 = .ok (.invokevirtual 242, 3) := by decide +kernel
theorem dX5_place_24 : decode cX5_place 24 = .ok (.goto 5, 3) := by decide +kernel
theorem dX5_place_27 : decode cX5_place 27 = .ok (.bipush (-2), 2) := by decide +kernel
theorem dX5_place_29 : decode cX5_place 29 = .ok (.ireturn, 1) := by decide +kernel
theorem dX5_sidesOf_0 : decode cX5_sidesOf 0 = .ok (.iconst 0, 1) := by decide +kernel
theorem dX5_sidesOf_1 : decode cX5_sidesOf 1 = .ok (.istore_n 3, 1) := by decide +kernel
theorem dX5_sidesOf_2 : decode cX5_sidesOf 2 = .ok (.iload_n 3, 1) := by decide +kernel
theorem dX5_sidesOf_3 : decode cX5_sidesOf 3 = .ok (.iconst 4, 1) := by decide +kernel
theorem dX5_sidesOf_4 : decode cX5_sidesOf 4 = .ok (.if_icmp .ge 47, 3) := by decide +kernel
theorem dX5_sidesOf_7 : decode cX5_sidesOf 7 = .ok (.aload_n 0, 1) := by decide +kernel
theorem dX5_sidesOf_8 : decode cX5_sidesOf 8 = .ok (.iload_n 3, 1) := by decide +kernel
theorem dX5_sidesOf_9 : decode cX5_sidesOf 9 = .ok (.invokevirtual 203, 3) := by decide +kernel
theorem dX5_sidesOf_12 : decode cX5_sidesOf 12 = .ok (.iload_n 1, 1) := by decide +kernel
theorem dX5_sidesOf_13 : decode cX5_sidesOf 13 = .ok (.invokestatic 178, 3) := by decide +kernel
theorem dX5_sidesOf_16 : decode cX5_sidesOf 16 = .ok (.ifCond .eq 29, 3) := by decide +kernel
theorem dX5_sidesOf_19 : decode cX5_sidesOf 19 = .ok (.aload_n 0, 1) := by decide +kernel
theorem dX5_sidesOf_20 : decode cX5_sidesOf 20 = .ok (.iload_n 3, 1) := by decide +kernel
theorem dX5_sidesOf_21 : decode cX5_sidesOf 21 = .ok (.iconst 1, 1) := by decide +kernel
theorem dX5_sidesOf_22 : decode cX5_sidesOf 22 = .ok (.iadd, 1) := by decide +kernel
theorem dX5_sidesOf_23 : decode cX5_sidesOf 23 = .ok (.iconst 4, 1) := by decide +kernel
theorem dX5_sidesOf_24 : decode cX5_sidesOf 24 = .ok (.irem, 1) := by decide +kernel
theorem dX5_sidesOf_25 : decode cX5_sidesOf 25 = .ok (.invokevirtual 203, 3) := by decide +kernel
theorem dX5_sidesOf_28 : decode cX5_sidesOf 28 = .ok (.iload_n 1, 1) := by decide +kernel
theorem dX5_sidesOf_29 : decode cX5_sidesOf 29 = .ok (.invokestatic 178, 3) := by decide +kernel
theorem dX5_sidesOf_32 : decode cX5_sidesOf 32 = .ok (.ifCond .eq 13, 3) := by decide +kernel
theorem dX5_sidesOf_35 : decode cX5_sidesOf 35 = .ok (.iload_n 2, 1) := by decide +kernel
theorem dX5_sidesOf_36 : decode cX5_sidesOf 36 = .ok (.ifCond .ne 7, 3) := by decide +kernel
theorem dX5_sidesOf_39 : decode cX5_sidesOf 39 = .ok (.iconst 1, 1) := by decide +kernel
theorem dX5_sidesOf_40 : decode cX5_sidesOf 40 = .ok (.goto 4, 3) := by decide +kernel
theorem dX5_sidesOf_43 : decode cX5_sidesOf 43 = .ok (.iload_n 3, 1) := by decide +kernel
theorem dX5_sidesOf_44 : decode cX5_sidesOf 44 = .ok (.ireturn, 1) := by decide +kernel
theorem dX5_sidesOf_45 : decode cX5_sidesOf 45 = .ok (.iinc 3 1, 3) := by decide +kernel
theorem dX5_sidesOf_48 : decode cX5_sidesOf 48 = .ok (.goto (-46), 3) := by decide +kernel
theorem dX5_sidesOf_51 : decode cX5_sidesOf 51 = .ok (.iload_n 2, 1) := by decide +kernel
theorem dX5_sidesOf_52 : decode cX5_sidesOf 52 = .ok (.ifCond .ne 7, 3) := by decide +kernel
theorem dX5_sidesOf_55 : decode cX5_sidesOf 55 = .ok (.iconst 0, 1) := by decide +kernel
theorem dX5_sidesOf_56 : decode cX5_sidesOf 56 = .ok (.goto 4, 3) := by decide +kernel
theorem dX5_sidesOf_59 : decode cX5_sidesOf 59 = .ok (.iconst (-1), 1) := by decide +kernel
theorem dX5_sidesOf_60 : decode cX5_sidesOf 60 = .ok (.ireturn, 1) := by decide +kernel
theorem dX5_sides_0 : decode cX5_sides 0 = .ok (.aload_n 0, 1) := by decide +kernel
theorem dX5_sides_1 : decode cX5_sides 1 = .ok (.invokevirtual 129, 3) := by decide +kernel
theorem dX5_sides_4 : decode cX5_sides 4 = .ok (.iload_n 1, 1) := by decide +kernel
theorem dX5_sides_5 : decode cX5_sides 5 = .ok (.invokestatic 145, 3) := by decide +kernel
theorem dX5_sides_8 : decode cX5_sides 8 = .ok (.ifCond .eq 19, 3) := by decide +kernel
theorem dX5_sides_11 : decode cX5_sides 11 = .ok (.iload_n 2, 1) := by decide +kernel
theorem dX5_sides_12 : decode cX5_sides 12 = .ok (.invokestatic 89, 3) := by decide +kernel
theorem dX5_sides_15 : decode cX5_sides 15 = .ok (.ifCond .eq 12, 3) := by decide +kernel
theorem dX5_sides_18 : decode cX5_sides 18 = .ok (.aload_n 0, 1) := by decide +kernel
theorem dX5_sides_19 : decode cX5_sides 19 = .ok (.iload_n 1, 1) := by decide +kernel
theorem dX5_sides_20 : decode cX5_sides 20 = .ok (.iload_n 2, 1) := by decide +kernel
theorem dX5_sides_21 : decode cX5_sides 21 = .ok (.invokevirtual 245, 3) := by decide +kernel
theorem dX5_sides_24 : decode cX5_sides 24 = .ok (.goto 5, 3) := by decide +kernel
theorem dX5_sides_27 : decode cX5_sides 27 = .ok (.bipush (-2), 2) := by decide +kernel
theorem dX5_sides_29 : decode cX5_sides 29 = .ok (.ireturn, 1) := by decide +kernel
theorem dX5_read_0 : decode cX5_read 0 = .ok (.iload_n 1, 1) := by decide +kernel
theorem dX5_read_1 : decode cX5_read 1 = .ok (.invokestatic 193, 3) := by decide +kernel
theorem dX5_read_4 : decode cX5_read 4 = .ok (.ifCond .eq 10, 3) := by decide +kernel
theorem dX5_read_7 : decode cX5_read 7 = .ok (.iload_n 2, 1) := by decide +kernel
theorem dX5_read_8 : decode cX5_read 8 = .ok (.invokestatic 224, 3) := by decide +kernel
theorem dX5_read_11 : decode cX5_read 11 = .ok (.ifCond .ne 6, 3) := by decide +kernel
theorem dX5_read_14 : decode cX5_read 14 = .ok (.bipush (-2), 2) := by decide +kernel
theorem dX5_read_16 : decode cX5_read 16 = .ok (.ireturn, 1) := by decide +kernel
theorem dX5_read_17 : decode cX5_read 17 = .ok (.aload_n 0, 1) := by decide +kernel
theorem dX5_read_18 : decode cX5_read 18 = .ok (.getfield 248, 3) := by decide +kernel
theorem dX5_read_21 : decode cX5_read 21 = .ok (.bipush 8, 2) := by decide +kernel
theorem dX5_read_23 : decode cX5_read 23 = .ok (.if_icmp .ne 6, 3) := by decide +kernel
theorem dX5_read_26 : decode cX5_read 26 = .ok (.bipush (-4), 2) := by decide +kernel
theorem dX5_read_28 : decode cX5_read 28 = .ok (.ireturn, 1) := by decide +kernel
theorem dX5_read_29 : decode cX5_read 29 = .ok (.aload_n 0, 1) := by decide +kernel
theorem dX5_read_30 : decode cX5_read 30 = .ok (.getfield 52, 3) := by decide +kernel
theorem dX5_read_33 : decode cX5_read 33 = .ok (.iconst 2, 1) := by decide +kernel
theorem dX5_read_34 : decode cX5_read 34 = .ok (.aload_n 0, 1) := by decide +kernel
theorem dX5_read_35 : decode cX5_read 35 = .ok (.getfield 248, 3) := by decide +kernel
theorem dX5_read_38 : decode cX5_read 38 = .ok (.imul, 1) := by decide +kernel
theorem dX5_read_39 : decode cX5_read 39 = .ok (.iload_n 1, 1) := by decide +kernel
theorem dX5_read_40 : decode cX5_read 40 = .ok (.iastore, 1) := by decide +kernel
theorem dX5_read_41 : decode cX5_read 41 = .ok (.aload_n 0, 1) := by decide +kernel
theorem dX5_read_42 : decode cX5_read 42 = .ok (.getfield 52, 3) := by decide +kernel
theorem dX5_read_45 : decode cX5_read 45 = .ok (.iconst 2, 1) := by decide +kernel
theorem dX5_read_46 : decode cX5_read 46 = .ok (.aload_n 0, 1) := by decide +kernel
theorem dX5_read_47 : decode cX5_read 47 = .ok (.getfield 248, 3) := by decide +kernel
theorem dX5_read_50 : decode cX5_read 50 = .ok (.imul, 1) := by decide +kernel
theorem dX5_read_51 : decode cX5_read 51 = .ok (.iconst 1, 1) := by decide +kernel
theorem dX5_read_52 : decode cX5_read 52 = .ok (.iadd, 1) := by decide +kernel
theorem dX5_read_53 : decode cX5_read 53 = .ok (.iload_n 2, 1) := by decide +kernel
theorem dX5_read_54 : decode cX5_read 54 = .ok (.iastore, 1) := by decide +kernel
theorem dX5_read_55 : decode cX5_read 55 = .ok (.aload_n 0, 1) := by decide +kernel
theorem dX5_read_56 : decode cX5_read 56 = .ok (.dup, 1) := by decide +kernel
theorem dX5_read_57 : decode cX5_read 57 = .ok (.getfield 248, 3) := by decide +kernel
theorem dX5_read_60 : decode cX5_read 60 = .ok (.iconst 1, 1) := by decide +kernel
theorem dX5_read_61 : decode cX5_read 61 = .ok (.iadd, 1) := by decide +kernel
theorem dX5_read_62 : decode cX5_read 62 = .ok (.putfield 248, 3) := by decide +kernel
theorem dX5_read_65 : decode cX5_read 65 = .ok (.aload_n 0, 1) := by decide +kernel
theorem dX5_read_66 : decode cX5_read 66 = .ok (.getfield 248, 3) := by decide +kernel
theorem dX5_read_69 : decode cX5_read 69 = .ok (.ireturn, 1) := by decide +kernel
theorem dX5_forget_0 : decode cX5_forget 0 = .ok (.aload_n 0, 1) := by decide +kernel
theorem dX5_forget_1 : decode cX5_forget 1 = .ok (.getfield 248, 3) := by decide +kernel
theorem dX5_forget_4 : decode cX5_forget 4 = .ok (.istore_n 1, 1) := by decide +kernel
theorem dX5_forget_5 : decode cX5_forget 5 = .ok (.aload_n 0, 1) := by decide +kernel
theorem dX5_forget_6 : decode cX5_forget 6 = .ok (.iconst 0, 1) := by decide +kernel
theorem dX5_forget_7 : decode cX5_forget 7 = .ok (.putfield 248, 3) := by decide +kernel
theorem dX5_forget_10 : decode cX5_forget 10 = .ok (.iload_n 1, 1) := by decide +kernel
theorem dX5_forget_11 : decode cX5_forget 11 = .ok (.ireturn, 1) := by decide +kernel
theorem dX5_take_0 : decode cX5_take 0 = .ok (.iload_n 1, 1) := by decide +kernel
theorem dX5_take_1 : decode cX5_take 1 = .ok (.invokestatic 70, 3) := by decide +kernel
theorem dX5_take_4 : decode cX5_take 4 = .ok (.ifCond .ne 6, 3) := by decide +kernel
theorem dX5_take_7 : decode cX5_take 7 = .ok (.bipush (-2), 2) := by decide +kernel
theorem dX5_take_9 : decode cX5_take 9 = .ok (.ireturn, 1) := by decide +kernel
theorem dX5_take_10 : decode cX5_take 10 = .ok (.aload_n 0, 1) := by decide +kernel
theorem dX5_take_11 : decode cX5_take 11 = .ok (.getfield 7, 3) := by decide +kernel
theorem dX5_take_14 : decode cX5_take 14 = .ok (.iload_n 1, 1) := by decide +kernel
theorem dX5_take_15 : decode cX5_take 15 = .ok (.iaload, 1) := by decide +kernel
theorem dX5_take_16 : decode cX5_take 16 = .ok (.ifCond .ge 9, 3) := by decide +kernel
theorem dX5_take_19 : decode cX5_take 19 = .ok (.aload_n 0, 1) := by decide +kernel
theorem dX5_take_20 : decode cX5_take 20 = .ok (.iconst 1, 1) := by decide +kernel
theorem dX5_take_21 : decode cX5_take 21 = .ok (.invokevirtual 76, 3) := by decide +kernel
theorem dX5_take_24 : decode cX5_take 24 = .ok (.ireturn, 1) := by decide +kernel
theorem dX5_take_25 : decode cX5_take 25 = .ok (.iconst 0, 1) := by decide +kernel
theorem dX5_take_26 : decode cX5_take 26 = .ok (.istore_n 2, 1) := by decide +kernel
theorem dX5_take_27 : decode cX5_take 27 = .ok (.iconst 1, 1) := by decide +kernel
theorem dX5_take_28 : decode cX5_take 28 = .ok (.istore_n 3, 1) := by decide +kernel
theorem dX5_take_29 : decode cX5_take 29 = .ok (.iload_n 3, 1) := by decide +kernel
theorem dX5_take_30 : decode cX5_take 30 = .ok (.ifCond .eq 73, 3) := by decide +kernel
theorem dX5_take_33 : decode cX5_take 33 = .ok (.iconst 2, 1) := by decide +kernel
theorem dX5_take_34 : decode cX5_take 34 = .ok (.iload_n 2, 1) := by decide +kernel
theorem dX5_take_35 : decode cX5_take 35 = .ok (.imul, 1) := by decide +kernel
theorem dX5_take_36 : decode cX5_take 36 = .ok (.iconst 2, 1) := by decide +kernel
theorem dX5_take_37 : decode cX5_take 37 = .ok (.iadd, 1) := by decide +kernel
theorem dX5_take_38 : decode cX5_take 38 = .ok (.aload_n 0, 1) := by decide +kernel
theorem dX5_take_39 : decode cX5_take 39 = .ok (.getfield 13, 3) := by decide +kernel
theorem dX5_take_42 : decode cX5_take 42 = .ok (.iload_n 1, 1) := by decide +kernel
theorem dX5_take_43 : decode cX5_take 43 = .ok (.iaload, 1) := by decide +kernel
theorem dX5_take_44 : decode cX5_take 44 = .ok (.if_icmp .gt 59, 3) := by decide +kernel
theorem dX5_take_47 : decode cX5_take 47 = .ok (.aload_n 0, 1) := by decide +kernel
theorem dX5_take_48 : decode cX5_take 48 = .ok (.aload_n 0, 1) := by decide +kernel
theorem dX5_take_49 : decode cX5_take 49 = .ok (.getfield 16, 3) := by decide +kernel
theorem dX5_take_52 : decode cX5_take 52 = .ok (.bipush 60, 2) := by decide +kernel
theorem dX5_take_54 : decode cX5_take 54 = .ok (.iload_n 1, 1) := by decide +kernel
theorem dX5_take_55 : decode cX5_take 55 = .ok (.imul, 1) := by decide +kernel
theorem dX5_take_56 : decode cX5_take 56 = .ok (.iconst 2, 1) := by decide +kernel
theorem dX5_take_57 : decode cX5_take 57 = .ok (.iload_n 2, 1) := by decide +kernel
theorem dX5_take_58 : decode cX5_take 58 = .ok (.imul, 1) := by decide +kernel
theorem dX5_take_59 : decode cX5_take 59 = .ok (.iadd, 1) := by decide +kernel
theorem dX5_take_60 : decode cX5_take 60 = .ok (.iaload, 1) := by decide +kernel
theorem dX5_take_61 : decode cX5_take 61 = .ok (.aload_n 0, 1) := by decide +kernel
theorem dX5_take_62 : decode cX5_take 62 = .ok (.getfield 16, 3) := by decide +kernel
theorem dX5_take_65 : decode cX5_take 65 = .ok (.bipush 60, 2) := by decide +kernel
theorem dX5_take_67 : decode cX5_take 67 = .ok (.iload_n 1, 1) := by decide +kernel
theorem dX5_take_68 : decode cX5_take 68 = .ok (.imul, 1) := by decide +kernel
theorem dX5_take_69 : decode cX5_take 69 = .ok (.iconst 2, 1) := by decide +kernel
theorem dX5_take_70 : decode cX5_take 70 = .ok (.iload_n 2, 1) := by decide +kernel
theorem dX5_take_71 : decode cX5_take 71 = .ok (.imul, 1) := by decide +kernel
theorem dX5_take_72 : decode cX5_take 72 = .ok (.iadd, 1) := by decide +kernel
theorem dX5_take_73 : decode cX5_take 73 = .ok (.iconst 1, 1) := by decide +kernel
theorem dX5_take_74 : decode cX5_take 74 = .ok (.iadd, 1) := by decide +kernel
theorem dX5_take_75 : decode cX5_take 75 = .ok (.iaload, 1) := by decide +kernel
theorem dX5_take_76 : decode cX5_take 76 = .ok (.invokevirtual 251, 3) := by decide +kernel
theorem dX5_take_79 : decode cX5_take 79 = .ok (.ifCond .lt 7, 3) := by decide +kernel
theorem dX5_take_82 : decode cX5_take 82 = .ok (.iconst 1, 1) := by decide +kernel
theorem dX5_take_83 : decode cX5_take 83 = .ok (.goto 4, 3) := by decide +kernel
theorem dX5_take_86 : decode cX5_take 86 = .ok (.iconst 0, 1) := by decide +kernel
theorem dX5_take_87 : decode cX5_take 87 = .ok (.istore_n 3, 1) := by decide +kernel
theorem dX5_take_88 : decode cX5_take 88 = .ok (.iload_n 2, 1) := by decide +kernel
theorem dX5_take_89 : decode cX5_take 89 = .ok (.iload_n 3, 1) := by decide +kernel
theorem dX5_take_90 : decode cX5_take 90 = .ok (.ifCond .eq 7, 3) := by decide +kernel
theorem dX5_take_93 : decode cX5_take 93 = .ok (.iconst 1, 1) := by decide +kernel
theorem dX5_take_94 : decode cX5_take 94 = .ok (.goto 4, 3) := by decide +kernel
theorem dX5_take_97 : decode cX5_take 97 = .ok (.iconst 0, 1) := by decide +kernel
theorem dX5_take_98 : decode cX5_take 98 = .ok (.iadd, 1) := by decide +kernel
theorem dX5_take_99 : decode cX5_take 99 = .ok (.istore_n 2, 1) := by decide +kernel
theorem dX5_take_100 : decode cX5_take 100 = .ok (.goto (-71), 3) := by decide +kernel
theorem dX5_take_103 : decode cX5_take 103 = .ok (.iload_n 2, 1) := by decide +kernel
theorem dX5_take_104 : decode cX5_take 104 = .ok (.ireturn, 1) := by decide +kernel
theorem dX5_isRead_0 : decode cX5_isRead 0 = .ok (.iconst 1, 1) := by decide +kernel
theorem dX5_isRead_1 : decode cX5_isRead 1 = .ok (.istore_n 2, 1) := by decide +kernel
theorem dX5_isRead_2 : decode cX5_isRead 2 = .ok (.iconst 0, 1) := by decide +kernel
theorem dX5_isRead_3 : decode cX5_isRead 3 = .ok (.istore_n 3, 1) := by decide +kernel
theorem dX5_isRead_4 : decode cX5_isRead 4 = .ok (.iload_n 3, 1) := by decide +kernel
theorem dX5_isRead_5 : decode cX5_isRead 5 = .ok (.aload_n 0, 1) := by decide +kernel
theorem dX5_isRead_6 : decode cX5_isRead 6 = .ok (.getfield 248, 3) := by decide +kernel
theorem dX5_isRead_9 : decode cX5_isRead 9 = .ok (.if_icmp .ge 56, 3) := by decide +kernel
theorem dX5_isRead_12 : decode cX5_isRead 12 = .ok (.iload_n 2, 1) := by decide +kernel
theorem dX5_isRead_13 : decode cX5_isRead 13 = .ok (.ifCond .eq 52, 3) := by decide +kernel
theorem dX5_isRead_16 : decode cX5_isRead 16 = .ok (.aload_n 0, 1) := by decide +kernel
theorem dX5_isRead_17 : decode cX5_isRead 17 = .ok (.aload_n 0, 1) := by decide +kernel
theorem dX5_isRead_18 : decode cX5_isRead 18 = .ok (.getfield 52, 3) := by decide +kernel
theorem dX5_isRead_21 : decode cX5_isRead 21 = .ok (.iconst 2, 1) := by decide +kernel
theorem dX5_isRead_22 : decode cX5_isRead 22 = .ok (.iload_n 3, 1) := by decide +kernel
theorem dX5_isRead_23 : decode cX5_isRead 23 = .ok (.imul, 1) := by decide +kernel
theorem dX5_isRead_24 : decode cX5_isRead 24 = .ok (.iaload, 1) := by decide +kernel
theorem dX5_isRead_25 : decode cX5_isRead 25 = .ok (.invokevirtual 187, 3) := by decide +kernel
theorem dX5_isRead_28 : decode cX5_isRead 28 = .ok (.aload_n 0, 1) := by decide +kernel
theorem dX5_isRead_29 : decode cX5_isRead 29 = .ok (.aload_n 0, 1) := by decide +kernel
theorem dX5_isRead_30 : decode cX5_isRead 30 = .ok (.getfield 161, 3) := by decide +kernel
theorem dX5_isRead_33 : decode cX5_isRead 33 = .ok (.iload_n 1, 1) := by decide +kernel
theorem dX5_isRead_34 : decode cX5_isRead 34 = .ok (.iconst (-1), 1) := by decide +kernel
theorem dX5_isRead_35 : decode cX5_isRead 35 = .ok (.ixor, 1) := by decide +kernel
theorem dX5_isRead_36 : decode cX5_isRead 36 = .ok (.iand, 1) := by decide +kernel
theorem dX5_isRead_37 : decode cX5_isRead 37 = .ok (.invokevirtual 190, 3) := by decide +kernel
theorem dX5_isRead_40 : decode cX5_isRead 40 = .ok (.aload_n 0, 1) := by decide +kernel
theorem dX5_isRead_41 : decode cX5_isRead 41 = .ok (.getfield 52, 3) := by decide +kernel
theorem dX5_isRead_44 : decode cX5_isRead 44 = .ok (.iconst 2, 1) := by decide +kernel
theorem dX5_isRead_45 : decode cX5_isRead 45 = .ok (.iload_n 3, 1) := by decide +kernel
theorem dX5_isRead_46 : decode cX5_isRead 46 = .ok (.imul, 1) := by decide +kernel
theorem dX5_isRead_47 : decode cX5_isRead 47 = .ok (.iconst 1, 1) := by decide +kernel
theorem dX5_isRead_48 : decode cX5_isRead 48 = .ok (.iadd, 1) := by decide +kernel
theorem dX5_isRead_49 : decode cX5_isRead 49 = .ok (.iaload, 1) := by decide +kernel
theorem dX5_isRead_50 : decode cX5_isRead 50 = .ok (.if_icmp .ne 7, 3) := by decide +kernel
theorem dX5_isRead_53 : decode cX5_isRead 53 = .ok (.iconst 1, 1) := by decide +kernel
theorem dX5_isRead_54 : decode cX5_isRead 54 = .ok (.goto 4, 3) := by decide +kernel
theorem dX5_isRead_57 : decode cX5_isRead 57 = .ok (.iconst 0, 1) := by decide +kernel
theorem dX5_isRead_58 : decode cX5_isRead 58 = .ok (.istore_n 2, 1) := by decide +kernel
theorem dX5_isRead_59 : decode cX5_isRead 59 = .ok (.iinc 3 1, 3) := by decide +kernel
theorem dX5_isRead_62 : decode cX5_isRead 62 = .ok (.goto (-58), 3) := by decide +kernel
theorem dX5_isRead_65 : decode cX5_isRead 65 = .ok (.iload_n 2, 1) := by decide +kernel
theorem dX5_isRead_66 : decode cX5_isRead 66 = .ok (.ireturn, 1) := by decide +kernel
theorem dX5_fitsOf_0 : decode cX5_fitsOf 0 = .ok (.iconst 0, 1) := by decide +kernel
theorem dX5_fitsOf_1 : decode cX5_fitsOf 1 = .ok (.istore_n 2, 1) := by decide +kernel
theorem dX5_fitsOf_2 : decode cX5_fitsOf 2 = .ok (.iconst 0, 1) := by decide +kernel
theorem dX5_fitsOf_3 : decode cX5_fitsOf 3 = .ok (.istore_n 3, 1) := by decide +kernel
theorem dX5_fitsOf_4 : decode cX5_fitsOf 4 = .ok (.iload_n 3, 1) := by decide +kernel
theorem dX5_fitsOf_5 : decode cX5_fitsOf 5 = .ok (.iload_n 1, 1) := by decide +kernel
theorem dX5_fitsOf_6 : decode cX5_fitsOf 6 = .ok (.iconst 1, 1) := by decide +kernel
theorem dX5_fitsOf_7 : decode cX5_fitsOf 7 = .ok (.if_icmp .ne 10, 3) := by decide +kernel
theorem dX5_fitsOf_10 : decode cX5_fitsOf 10 = .ok (.aload_n 0, 1) := by decide +kernel
theorem dX5_fitsOf_11 : decode cX5_fitsOf 11 = .ok (.getfield 103, 3) := by decide +kernel
theorem dX5_fitsOf_14 : decode cX5_fitsOf 14 = .ok (.goto 7, 3) := by decide +kernel
theorem dX5_fitsOf_17 : decode cX5_fitsOf 17 = .ok (.aload_n 0, 1) := by decide +kernel
theorem dX5_fitsOf_18 : decode cX5_fitsOf 18 = .ok (.getfield 106, 3) := by decide +kernel
theorem dX5_fitsOf_21 : decode cX5_fitsOf 21 = .ok (.if_icmp .ge 67, 3) := by decide +kernel
theorem dX5_fitsOf_24 : decode cX5_fitsOf 24 = .ok (.aload_n 0, 1) := by decide +kernel
theorem dX5_fitsOf_25 : decode cX5_fitsOf 25 = .ok (.iload_n 1, 1) := by decide +kernel
theorem dX5_fitsOf_26 : decode cX5_fitsOf 26 = .ok (.ifCond .ne 9, 3) := by decide +kernel
theorem dX5_fitsOf_29 : decode cX5_fitsOf 29 = .ok (.iconst 1, 1) := by decide +kernel
theorem dX5_fitsOf_30 : decode cX5_fitsOf 30 = .ok (.iload_n 3, 1) := by decide +kernel
theorem dX5_fitsOf_31 : decode cX5_fitsOf 31 = .ok (.ishl, 1) := by decide +kernel
theorem dX5_fitsOf_32 : decode cX5_fitsOf 32 = .ok (.goto 4, 3) := by decide +kernel
theorem dX5_fitsOf_35 : decode cX5_fitsOf 35 = .ok (.iconst 0, 1) := by decide +kernel
theorem dX5_fitsOf_36 : decode cX5_fitsOf 36 = .ok (.putfield 181, 3) := by decide +kernel
theorem dX5_fitsOf_39 : decode cX5_fitsOf 39 = .ok (.aload_n 0, 1) := by decide +kernel
theorem dX5_fitsOf_40 : decode cX5_fitsOf 40 = .ok (.iload_n 1, 1) := by decide +kernel
theorem dX5_fitsOf_41 : decode cX5_fitsOf 41 = .ok (.iconst 2, 1) := by decide +kernel
theorem dX5_fitsOf_42 : decode cX5_fitsOf 42 = .ok (.if_icmp .ne 7, 3) := by decide +kernel
theorem dX5_fitsOf_45 : decode cX5_fitsOf 45 = .ok (.iload_n 3, 1) := by decide +kernel
theorem dX5_fitsOf_46 : decode cX5_fitsOf 46 = .ok (.goto 4, 3) := by decide +kernel
theorem dX5_fitsOf_49 : decode cX5_fitsOf 49 = .ok (.iconst (-1), 1) := by decide +kernel
theorem dX5_fitsOf_50 : decode cX5_fitsOf 50 = .ok (.putfield 55, 3) := by decide +kernel
theorem dX5_fitsOf_53 : decode cX5_fitsOf 53 = .ok (.iload_n 2, 1) := by decide +kernel
theorem dX5_fitsOf_54 : decode cX5_fitsOf 54 = .ok (.aload_n 0, 1) := by decide +kernel
theorem dX5_fitsOf_55 : decode cX5_fitsOf 55 = .ok (.iload_n 1, 1) := by decide +kernel
theorem dX5_fitsOf_56 : decode cX5_fitsOf 56 = .ok (.iconst 1, 1) := by decide +kernel
theorem dX5_fitsOf_57 : decode cX5_fitsOf 57 = .ok (.if_icmp .ne 9, 3) := by decide +kernel
theorem dX5_fitsOf_60 : decode cX5_fitsOf 60 = .ok (.iconst 1, 1) := by decide +kernel
theorem dX5_fitsOf_61 : decode cX5_fitsOf 61 = .ok (.iload_n 3, 1) := by decide +kernel
theorem dX5_fitsOf_62 : decode cX5_fitsOf 62 = .ok (.ishl, 1) := by decide +kernel
theorem dX5_fitsOf_63 : decode cX5_fitsOf 63 = .ok (.goto 4, 3) := by decide +kernel
theorem dX5_fitsOf_66 : decode cX5_fitsOf 66 = .ok (.iconst 0, 1) := by decide +kernel
theorem dX5_fitsOf_67 : decode cX5_fitsOf 67 = .ok (.invokevirtual 254, 3) := by decide +kernel
theorem dX5_fitsOf_70 : decode cX5_fitsOf 70 = .ok (.ifCond .eq 9, 3) := by decide +kernel
theorem dX5_fitsOf_73 : decode cX5_fitsOf 73 = .ok (.iconst 1, 1) := by decide +kernel
theorem dX5_fitsOf_74 : decode cX5_fitsOf 74 = .ok (.iload_n 3, 1) := by decide +kernel
theorem dX5_fitsOf_75 : decode cX5_fitsOf 75 = .ok (.ishl, 1) := by decide +kernel
theorem dX5_fitsOf_76 : decode cX5_fitsOf 76 = .ok (.goto 4, 3) := by decide +kernel
theorem dX5_fitsOf_79 : decode cX5_fitsOf 79 = .ok (.iconst 0, 1) := by decide +kernel
theorem dX5_fitsOf_80 : decode cX5_fitsOf 80 = .ok (.ior, 1) := by decide +kernel
theorem dX5_fitsOf_81 : decode cX5_fitsOf 81 = .ok (.istore_n 2, 1) := by decide +kernel
theorem dX5_fitsOf_82 : decode cX5_fitsOf 82 = .ok (.iinc 3 1, 3) := by decide +kernel
theorem dX5_fitsOf_85 : decode cX5_fitsOf 85 = .ok (.goto (-81), 3) := by decide +kernel
theorem dX5_fitsOf_88 : decode cX5_fitsOf 88 = .ok (.aload_n 0, 1) := by decide +kernel
theorem dX5_fitsOf_89 : decode cX5_fitsOf 89 = .ok (.iconst 0, 1) := by decide +kernel
theorem dX5_fitsOf_90 : decode cX5_fitsOf 90 = .ok (.putfield 181, 3) := by decide +kernel
theorem dX5_fitsOf_93 : decode cX5_fitsOf 93 = .ok (.aload_n 0, 1) := by decide +kernel
theorem dX5_fitsOf_94 : decode cX5_fitsOf 94 = .ok (.iconst (-1), 1) := by decide +kernel
theorem dX5_fitsOf_95 : decode cX5_fitsOf 95 = .ok (.putfield 55, 3) := by decide +kernel
theorem dX5_fitsOf_98 : decode cX5_fitsOf 98 = .ok (.iload_n 2, 1) := by decide +kernel
theorem dX5_fitsOf_99 : decode cX5_fitsOf 99 = .ok (.ireturn, 1) := by decide +kernel
theorem dX5_fits_0 : decode cX5_fits 0 = .ok (.aload_n 0, 1) := by decide +kernel
theorem dX5_fits_1 : decode cX5_fits 1 = .ok (.invokevirtual 129, 3) := by decide +kernel
theorem dX5_fits_4 : decode cX5_fits 4 = .ok (.iload_n 1, 1) := by decide +kernel
theorem dX5_fits_5 : decode cX5_fits 5 = .ok (.i2l, 1) := by decide +kernel
theorem dX5_fits_6 : decode cX5_fits 6 = .ok (.lconst 0, 1) := by decide +kernel
theorem dX5_fits_7 : decode cX5_fits 7 = .ok (.ldc2_w 74, 3) := by decide +kernel
theorem dX5_fits_10 : decode cX5_fits 10 = .ok (.invokestatic 61, 3) := by decide +kernel
theorem dX5_fits_13 : decode cX5_fits 13 = .ok (.ifCond .eq 11, 3) := by decide +kernel
theorem dX5_fits_16 : decode cX5_fits 16 = .ok (.aload_n 0, 1) := by decide +kernel
theorem dX5_fits_17 : decode cX5_fits 17 = .ok (.iload_n 1, 1) := by decide +kernel
theorem dX5_fits_18 : decode cX5_fits 18 = .ok (.invokevirtual 257, 3) := by decide +kernel
theorem dX5_fits_21 : decode cX5_fits 21 = .ok (.goto 5, 3) := by decide +kernel
theorem dX5_fits_24 : decode cX5_fits 24 = .ok (.bipush (-2), 2) := by decide +kernel
theorem dX5_fits_26 : decode cX5_fits 26 = .ok (.ireturn, 1) := by decide +kernel
theorem dX5_sinksOf_0 : decode cX5_sinksOf 0 = .ok (.aload_n 0, 1) := by decide +kernel
theorem dX5_sinksOf_1 : decode cX5_sinksOf 1 = .ok (.iload_n 2, 1) := by decide +kernel
theorem dX5_sinksOf_2 : decode cX5_sinksOf 2 = .ok (.invokevirtual 187, 3) := by decide +kernel
theorem dX5_sinksOf_5 : decode cX5_sinksOf 5 = .ok (.lconst 0, 1) := by decide +kernel
theorem dX5_sinksOf_6 : decode cX5_sinksOf 6 = .ok (.lstore 5, 2) := by decide +kernel
theorem dX5_sinksOf_8 : decode cX5_sinksOf 8 = .ok (.lconst 1, 1) := by decide +kernel
theorem dX5_sinksOf_9 : decode cX5_sinksOf 9 = .ok (.lstore 7, 2) := by decide +kernel
theorem dX5_sinksOf_11 : decode cX5_sinksOf 11 = .ok (.iconst 0, 1) := by decide +kernel
theorem dX5_sinksOf_12 : decode cX5_sinksOf 12 = .ok (.istore 9, 2) := by decide +kernel
theorem dX5_sinksOf_14 : decode cX5_sinksOf 14 = .ok (.iload 9, 2) := by decide +kernel
theorem dX5_sinksOf_16 : decode cX5_sinksOf 16 = .ok (.aload_n 0, 1) := by decide +kernel
theorem dX5_sinksOf_17 : decode cX5_sinksOf 17 = .ok (.getfield 103, 3) := by decide +kernel
theorem dX5_sinksOf_20 : decode cX5_sinksOf 20 = .ok (.if_icmp .ge 17, 3) := by decide +kernel
theorem dX5_sinksOf_23 : decode cX5_sinksOf 23 = .ok (.lload 7, 2) := by decide +kernel
theorem dX5_sinksOf_25 : decode cX5_sinksOf 25 = .ok (.ldc2_w 260, 3) := by decide +kernel
theorem dX5_sinksOf_28 : decode cX5_sinksOf 28 = .ok (.lmul, 1) := by decide +kernel
theorem dX5_sinksOf_29 : decode cX5_sinksOf 29 = .ok (.lstore 7, 2) := by decide +kernel
theorem dX5_sinksOf_31 : decode cX5_sinksOf 31 = .ok (.iinc 9 1, 3) := by decide +kernel
theorem dX5_sinksOf_34 : decode cX5_sinksOf 34 = .ok (.goto (-20), 3) := by decide +kernel
theorem dX5_sinksOf_37 : decode cX5_sinksOf 37 = .ok (.iconst 0, 1) := by decide +kernel
theorem dX5_sinksOf_38 : decode cX5_sinksOf 38 = .ok (.istore 9, 2) := by decide +kernel
theorem dX5_sinksOf_40 : decode cX5_sinksOf 40 = .ok (.iload 9, 2) := by decide +kernel
theorem dX5_sinksOf_42 : decode cX5_sinksOf 42 = .ok (.iconst 1, 1) := by decide +kernel
theorem dX5_sinksOf_43 : decode cX5_sinksOf 43 = .ok (.aload_n 0, 1) := by decide +kernel
theorem dX5_sinksOf_44 : decode cX5_sinksOf 44 = .ok (.getfield 103, 3) := by decide +kernel
theorem dX5_sinksOf_47 : decode cX5_sinksOf 47 = .ok (.ishl, 1) := by decide +kernel
theorem dX5_sinksOf_48 : decode cX5_sinksOf 48 = .ok (.if_icmp .ge 82, 3) := by decide +kernel
theorem dX5_sinksOf_51 : decode cX5_sinksOf 51 = .ok (.aload_n 0, 1) := by decide +kernel
theorem dX5_sinksOf_52 : decode cX5_sinksOf 52 = .ok (.aload_n 0, 1) := by decide +kernel
theorem dX5_sinksOf_53 : decode cX5_sinksOf 53 = .ok (.getfield 161, 3) := by decide +kernel
theorem dX5_sinksOf_56 : decode cX5_sinksOf 56 = .ok (.iload 9, 2) := by decide +kernel
theorem dX5_sinksOf_58 : decode cX5_sinksOf 58 = .ok (.iconst (-1), 1) := by decide +kernel
theorem dX5_sinksOf_59 : decode cX5_sinksOf 59 = .ok (.ixor, 1) := by decide +kernel
theorem dX5_sinksOf_60 : decode cX5_sinksOf 60 = .ok (.iand, 1) := by decide +kernel
theorem dX5_sinksOf_61 : decode cX5_sinksOf 61 = .ok (.invokevirtual 190, 3) := by decide +kernel
theorem dX5_sinksOf_64 : decode cX5_sinksOf 64 = .ok (.iload_n 3, 1) := by decide +kernel
theorem dX5_sinksOf_65 : decode cX5_sinksOf 65 = .ok (.invokestatic 178, 3) := by decide +kernel
theorem dX5_sinksOf_68 : decode cX5_sinksOf 68 = .ok (.ifCond .eq 56, 3) := by decide +kernel
theorem dX5_sinksOf_71 : decode cX5_sinksOf 71 = .ok (.lconst 1, 1) := by decide +kernel
theorem dX5_sinksOf_72 : decode cX5_sinksOf 72 = .ok (.lstore 10, 2) := by decide +kernel
theorem dX5_sinksOf_74 : decode cX5_sinksOf 74 = .ok (.iconst 0, 1) := by decide +kernel
theorem dX5_sinksOf_75 : decode cX5_sinksOf 75 = .ok (.istore 12, 2) := by decide +kernel
theorem dX5_sinksOf_77 : decode cX5_sinksOf 77 = .ok (.iload 12, 2) := by decide +kernel
theorem dX5_sinksOf_79 : decode cX5_sinksOf 79 = .ok (.aload_n 0, 1) := by decide +kernel
theorem dX5_sinksOf_80 : decode cX5_sinksOf 80 = .ok (.getfield 103, 3) := by decide +kernel
theorem dX5_sinksOf_83 : decode cX5_sinksOf 83 = .ok (.if_icmp .ge 34, 3) := by decide +kernel
theorem dX5_sinksOf_86 : decode cX5_sinksOf 86 = .ok (.lload 10, 2) := by decide +kernel
theorem dX5_sinksOf_88 : decode cX5_sinksOf 88 = .ok (.iload 9, 2) := by decide +kernel
theorem dX5_sinksOf_90 : decode cX5_sinksOf 90 = .ok (.iload 12, 2) := by decide +kernel
theorem dX5_sinksOf_92 : decode cX5_sinksOf 92 = .ok (.invokestatic 178, 3) := by decide +kernel
theorem dX5_sinksOf_95 : decode cX5_sinksOf 95 = .ok (.ifCond .eq 8, 3) := by decide +kernel
theorem dX5_sinksOf_98 : decode cX5_sinksOf 98 = .ok (.iload_n 1, 1) := by decide +kernel
theorem dX5_sinksOf_99 : decode cX5_sinksOf 99 = .ok (.i2l, 1) := by decide +kernel
theorem dX5_sinksOf_100 : decode cX5_sinksOf 100 = .ok (.goto 8, 3) := by decide +kernel
theorem dX5_sinksOf_103 : decode cX5_sinksOf 103 = .ok (.bipush 16, 2) := by decide +kernel
theorem dX5_sinksOf_105 : decode cX5_sinksOf 105 = .ok (.iload_n 1, 1) := by decide +kernel
theorem dX5_sinksOf_106 : decode cX5_sinksOf 106 = .ok (.isub, 1) := by decide +kernel
theorem dX5_sinksOf_107 : decode cX5_sinksOf 107 = .ok (.i2l, 1) := by decide +kernel
theorem dX5_sinksOf_108 : decode cX5_sinksOf 108 = .ok (.lmul, 1) := by decide +kernel
theorem dX5_sinksOf_109 : decode cX5_sinksOf 109 = .ok (.lstore 10, 2) := by decide +kernel
theorem dX5_sinksOf_111 : decode cX5_sinksOf 111 = .ok (.iinc 12 1, 3) := by decide +kernel
theorem dX5_sinksOf_114 : decode cX5_sinksOf 114 = .ok (.goto (-37), 3) := by decide +kernel
theorem dX5_sinksOf_117 : decode cX5_sinksOf 117 = .ok (.lload 5, 2) := by decide +kernel
theorem dX5_sinksOf_119 : decode cX5_sinksOf 119 = .ok (.lload 10, 2) := by decide +kernel
theorem dX5_sinksOf_121 : decode cX5_sinksOf 121 = .ok (.ladd, 1) := by decide +kernel
theorem dX5_sinksOf_122 : decode cX5_sinksOf 122 = .ok (.lstore 5, 2) := by decide +kernel
theorem dX5_sinksOf_124 : decode cX5_sinksOf 124 = .ok (.iinc 9 1, 3) := by decide +kernel
theorem dX5_sinksOf_127 : decode cX5_sinksOf 127 = .ok (.goto (-87), 3) := by decide +kernel
theorem dX5_sinksOf_130 : decode cX5_sinksOf 130 = .ok (.lload 5, 2) := by decide +kernel
theorem dX5_sinksOf_132 : decode cX5_sinksOf 132 = .ok (.lload 7, 2) := by decide +kernel
theorem dX5_sinksOf_134 : decode cX5_sinksOf 134 = .ok (.iload 4, 2) := by decide +kernel
theorem dX5_sinksOf_136 : decode cX5_sinksOf 136 = .ok (.invokestatic 262, 3) := by decide +kernel
theorem dX5_sinksOf_139 : decode cX5_sinksOf 139 = .ok (.lreturn, 1) := by decide +kernel
theorem dX5_sinks_0 : decode cX5_sinks 0 = .ok (.aload_n 0, 1) := by decide +kernel
theorem dX5_sinks_1 : decode cX5_sinks 1 = .ok (.invokevirtual 129, 3) := by decide +kernel
theorem dX5_sinks_4 : decode cX5_sinks 4 = .ok (.iload_n 1, 1) := by decide +kernel
theorem dX5_sinks_5 : decode cX5_sinks 5 = .ok (.i2l, 1) := by decide +kernel
theorem dX5_sinks_6 : decode cX5_sinks 6 = .ok (.lconst 0, 1) := by decide +kernel
theorem dX5_sinks_7 : decode cX5_sinks 7 = .ok (.ldc2_w 260, 3) := by decide +kernel
theorem dX5_sinks_10 : decode cX5_sinks 10 = .ok (.invokestatic 61, 3) := by decide +kernel
theorem dX5_sinks_13 : decode cX5_sinks 13 = .ok (.ifCond .eq 37, 3) := by decide +kernel
theorem dX5_sinks_16 : decode cX5_sinks 16 = .ok (.iload_n 2, 1) := by decide +kernel
theorem dX5_sinks_17 : decode cX5_sinks 17 = .ok (.invokestatic 193, 3) := by decide +kernel
theorem dX5_sinks_20 : decode cX5_sinks 20 = .ok (.ifCond .eq 30, 3) := by decide +kernel
theorem dX5_sinks_23 : decode cX5_sinks 23 = .ok (.iload_n 3, 1) := by decide +kernel
theorem dX5_sinks_24 : decode cX5_sinks 24 = .ok (.invokestatic 145, 3) := by decide +kernel
theorem dX5_sinks_27 : decode cX5_sinks 27 = .ok (.ifCond .eq 23, 3) := by decide +kernel
theorem dX5_sinks_30 : decode cX5_sinks 30 = .ok (.iload 4, 2) := by decide +kernel
theorem dX5_sinks_32 : decode cX5_sinks 32 = .ok (.invokestatic 89, 3) := by decide +kernel
theorem dX5_sinks_35 : decode cX5_sinks 35 = .ok (.ifCond .eq 15, 3) := by decide +kernel
theorem dX5_sinks_38 : decode cX5_sinks 38 = .ok (.aload_n 0, 1) := by decide +kernel
theorem dX5_sinks_39 : decode cX5_sinks 39 = .ok (.iload_n 1, 1) := by decide +kernel
theorem dX5_sinks_40 : decode cX5_sinks 40 = .ok (.iload_n 2, 1) := by decide +kernel
theorem dX5_sinks_41 : decode cX5_sinks 41 = .ok (.iload_n 3, 1) := by decide +kernel
theorem dX5_sinks_42 : decode cX5_sinks 42 = .ok (.iload 4, 2) := by decide +kernel
theorem dX5_sinks_44 : decode cX5_sinks 44 = .ok (.invokevirtual 266, 3) := by decide +kernel
theorem dX5_sinks_47 : decode cX5_sinks 47 = .ok (.goto 8, 3) := by decide +kernel
theorem dX5_sinks_50 : decode cX5_sinks 50 = .ok (.bipush (-2), 2) := by decide +kernel
theorem dX5_sinks_52 : decode cX5_sinks 52 = .ok (.invokestatic 270, 3) := by decide +kernel
theorem dX5_sinks_55 : decode cX5_sinks 55 = .ok (.lreturn, 1) := by decide +kernel
theorem dX5_morningsOf_0 : decode cX5_morningsOf 0 = .ok (.iload_n 1, 1) := by decide +kernel
theorem dX5_morningsOf_1 : decode cX5_morningsOf 1 = .ok (.istore 4, 2) := by decide +kernel
theorem dX5_morningsOf_3 : decode cX5_morningsOf 3 = .ok (.iconst 0, 1) := by decide +kernel
theorem dX5_morningsOf_4 : decode cX5_morningsOf 4 = .ok (.istore 5, 2) := by decide +kernel
theorem dX5_morningsOf_6 : decode cX5_morningsOf 6 = .ok (.iconst 0, 1) := by decide +kernel
theorem dX5_morningsOf_7 : decode cX5_morningsOf 7 = .ok (.istore 6, 2) := by decide +kernel
theorem dX5_morningsOf_9 : decode cX5_morningsOf 9 = .ok (.iload 6, 2) := by decide +kernel
theorem dX5_morningsOf_11 : decode cX5_morningsOf 11 = .ok (.iload_n 2, 1) := by decide +kernel
theorem dX5_morningsOf_12 : decode cX5_morningsOf 12 = .ok (.if_icmp .ge 49, 3) := by decide +kernel
theorem dX5_morningsOf_15 : decode cX5_morningsOf 15 = .ok (.ldc_w 274, 3) := by decide +kernel
theorem dX5_morningsOf_18 : decode cX5_morningsOf 18 = .ok (.iload 4, 2) := by decide +kernel
theorem dX5_morningsOf_20 : decode cX5_morningsOf 20 = .ok (.imul, 1) := by decide +kernel
theorem dX5_morningsOf_21 : decode cX5_morningsOf 21 = .ok (.sipush 12345, 3) := by decide +kernel
theorem dX5_morningsOf_24 : decode cX5_morningsOf 24 = .ok (.iadd, 1) := by decide +kernel
theorem dX5_morningsOf_25 : decode cX5_morningsOf 25 = .ok (.istore 4, 2) := by decide +kernel
theorem dX5_morningsOf_27 : decode cX5_morningsOf 27 = .ok (.iload 5, 2) := by decide +kernel
theorem dX5_morningsOf_29 : decode cX5_morningsOf 29 = .ok (.aload_n 0, 1) := by decide +kernel
theorem dX5_morningsOf_30 : decode cX5_morningsOf 30 = .ok (.iload 4, 2) := by decide +kernel
theorem dX5_morningsOf_32 : decode cX5_morningsOf 32 = .ok (.bipush 16, 2) := by decide +kernel
theorem dX5_morningsOf_34 : decode cX5_morningsOf 34 = .ok (.iushr, 1) := by decide +kernel
theorem dX5_morningsOf_35 : decode cX5_morningsOf 35 = .ok (.iconst 4, 1) := by decide +kernel
theorem dX5_morningsOf_36 : decode cX5_morningsOf 36 = .ok (.irem, 1) := by decide +kernel
theorem dX5_morningsOf_37 : decode cX5_morningsOf 37 = .ok (.invokevirtual 203, 3) := by decide +kernel
theorem dX5_morningsOf_40 : decode cX5_morningsOf 40 = .ok (.iload_n 3, 1) := by decide +kernel
theorem dX5_morningsOf_41 : decode cX5_morningsOf 41 = .ok (.invokestatic 178, 3) := by decide +kernel
theorem dX5_morningsOf_44 : decode cX5_morningsOf 44 = .ok (.ifCond .eq 7, 3) := by decide +kernel
theorem dX5_morningsOf_47 : decode cX5_morningsOf 47 = .ok (.iconst 1, 1) := by decide +kernel
theorem dX5_morningsOf_48 : decode cX5_morningsOf 48 = .ok (.goto 4, 3) := by decide +kernel
theorem dX5_morningsOf_51 : decode cX5_morningsOf 51 = .ok (.iconst 0, 1) := by decide +kernel
theorem dX5_morningsOf_52 : decode cX5_morningsOf 52 = .ok (.iadd, 1) := by decide +kernel
theorem dX5_morningsOf_53 : decode cX5_morningsOf 53 = .ok (.istore 5, 2) := by decide +kernel
theorem dX5_morningsOf_55 : decode cX5_morningsOf 55 = .ok (.iinc 6 1, 3) := by decide +kernel
theorem dX5_morningsOf_58 : decode cX5_morningsOf 58 = .ok (.goto (-49), 3) := by decide +kernel
theorem dX5_morningsOf_61 : decode cX5_morningsOf 61 = .ok (.iload 5, 2) := by decide +kernel
theorem dX5_morningsOf_63 : decode cX5_morningsOf 63 = .ok (.ireturn, 1) := by decide +kernel
theorem dX5_mornings_0 : decode cX5_mornings 0 = .ok (.aload_n 0, 1) := by decide +kernel
theorem dX5_mornings_1 : decode cX5_mornings 1 = .ok (.invokevirtual 129, 3) := by decide +kernel
theorem dX5_mornings_4 : decode cX5_mornings 4 = .ok (.iload_n 2, 1) := by decide +kernel
theorem dX5_mornings_5 : decode cX5_mornings 5 = .ok (.i2l, 1) := by decide +kernel
theorem dX5_mornings_6 : decode cX5_mornings 6 = .ok (.lconst 1, 1) := by decide +kernel
theorem dX5_mornings_7 : decode cX5_mornings 7 = .ok (.ldc2_w 275, 3) := by decide +kernel
theorem dX5_mornings_10 : decode cX5_mornings 10 = .ok (.invokestatic 61, 3) := by decide +kernel
theorem dX5_mornings_13 : decode cX5_mornings 13 = .ok (.ifCond .eq 20, 3) := by decide +kernel
theorem dX5_mornings_16 : decode cX5_mornings 16 = .ok (.iload_n 3, 1) := by decide +kernel
theorem dX5_mornings_17 : decode cX5_mornings 17 = .ok (.invokestatic 145, 3) := by decide +kernel
theorem dX5_mornings_20 : decode cX5_mornings 20 = .ok (.ifCond .eq 13, 3) := by decide +kernel
theorem dX5_mornings_23 : decode cX5_mornings 23 = .ok (.aload_n 0, 1) := by decide +kernel
theorem dX5_mornings_24 : decode cX5_mornings 24 = .ok (.iload_n 1, 1) := by decide +kernel
theorem dX5_mornings_25 : decode cX5_mornings 25 = .ok (.iload_n 2, 1) := by decide +kernel
theorem dX5_mornings_26 : decode cX5_mornings 26 = .ok (.iload_n 3, 1) := by decide +kernel
theorem dX5_mornings_27 : decode cX5_mornings 27 = .ok (.invokevirtual 277, 3) := by decide +kernel
theorem dX5_mornings_30 : decode cX5_mornings 30 = .ok (.goto 5, 3) := by decide +kernel
theorem dX5_mornings_33 : decode cX5_mornings 33 = .ok (.bipush (-2), 2) := by decide +kernel
theorem dX5_mornings_35 : decode cX5_mornings 35 = .ok (.ireturn, 1) := by decide +kernel
theorem dX5_write_0 : decode cX5_write 0 = .ok (.iload_n 1, 1) := by decide +kernel
theorem dX5_write_1 : decode cX5_write 1 = .ok (.invokestatic 70, 3) := by decide +kernel
theorem dX5_write_4 : decode cX5_write 4 = .ok (.ifCond .ne 6, 3) := by decide +kernel
theorem dX5_write_7 : decode cX5_write 7 = .ok (.bipush (-2), 2) := by decide +kernel
theorem dX5_write_9 : decode cX5_write 9 = .ok (.ireturn, 1) := by decide +kernel
theorem dX5_write_10 : decode cX5_write 10 = .ok (.aload_n 0, 1) := by decide +kernel
theorem dX5_write_11 : decode cX5_write 11 = .ok (.getfield 7, 3) := by decide +kernel
theorem dX5_write_14 : decode cX5_write 14 = .ok (.iload_n 1, 1) := by decide +kernel
theorem dX5_write_15 : decode cX5_write 15 = .ok (.iaload, 1) := by decide +kernel
theorem dX5_write_16 : decode cX5_write 16 = .ok (.ifCond .ge 9, 3) := by decide +kernel
theorem dX5_write_19 : decode cX5_write 19 = .ok (.aload_n 0, 1) := by decide +kernel
theorem dX5_write_20 : decode cX5_write 20 = .ok (.iconst 1, 1) := by decide +kernel
theorem dX5_write_21 : decode cX5_write 21 = .ok (.invokevirtual 76, 3) := by decide +kernel
theorem dX5_write_24 : decode cX5_write 24 = .ok (.ireturn, 1) := by decide +kernel
theorem dX5_write_25 : decode cX5_write 25 = .ok (.aload_n 0, 1) := by decide +kernel
theorem dX5_write_26 : decode cX5_write 26 = .ok (.invokevirtual 129, 3) := by decide +kernel
theorem dX5_write_29 : decode cX5_write 29 = .ok (.aload_n 0, 1) := by decide +kernel
theorem dX5_write_30 : decode cX5_write 30 = .ok (.getfield 13, 3) := by decide +kernel
theorem dX5_write_33 : decode cX5_write 33 = .ok (.iload_n 1, 1) := by decide +kernel
theorem dX5_write_34 : decode cX5_write 34 = .ok (.iaload, 1) := by decide +kernel
theorem dX5_write_35 : decode cX5_write 35 = .ok (.bipush 28, 2) := by decide +kernel
theorem dX5_write_37 : decode cX5_write 37 = .ok (.if_icmp .ge 12, 3) := by decide +kernel
theorem dX5_write_40 : decode cX5_write 40 = .ok (.aload_n 0, 1) := by decide +kernel
theorem dX5_write_41 : decode cX5_write 41 = .ok (.getfield 13, 3) := by decide +kernel
theorem dX5_write_44 : decode cX5_write 44 = .ok (.iload_n 1, 1) := by decide +kernel
theorem dX5_write_45 : decode cX5_write 45 = .ok (.iaload, 1) := by decide +kernel
theorem dX5_write_46 : decode cX5_write 46 = .ok (.goto 5, 3) := by decide +kernel
theorem dX5_write_49 : decode cX5_write 49 = .ok (.bipush 28, 2) := by decide +kernel
theorem dX5_write_51 : decode cX5_write 51 = .ok (.istore_n 2, 1) := by decide +kernel
theorem dX5_write_52 : decode cX5_write 52 = .ok (.iconst 0, 1) := by decide +kernel
theorem dX5_write_53 : decode cX5_write 53 = .ok (.istore_n 3, 1) := by decide +kernel
theorem dX5_write_54 : decode cX5_write 54 = .ok (.iload_n 3, 1) := by decide +kernel
theorem dX5_write_55 : decode cX5_write 55 = .ok (.iload_n 2, 1) := by decide +kernel
theorem dX5_write_56 : decode cX5_write 56 = .ok (.if_icmp .ge 34, 3) := by decide +kernel
theorem dX5_write_59 : decode cX5_write 59 = .ok (.aload_n 0, 1) := by decide +kernel
theorem dX5_write_60 : decode cX5_write 60 = .ok (.getfield 16, 3) := by decide +kernel
theorem dX5_write_63 : decode cX5_write 63 = .ok (.bipush 60, 2) := by decide +kernel
theorem dX5_write_65 : decode cX5_write 65 = .ok (.iload_n 1, 1) := by decide +kernel
theorem dX5_write_66 : decode cX5_write 66 = .ok (.imul, 1) := by decide +kernel
theorem dX5_write_67 : decode cX5_write 67 = .ok (.iload_n 3, 1) := by decide +kernel
theorem dX5_write_68 : decode cX5_write 68 = .ok (.iadd, 1) := by decide +kernel
theorem dX5_write_69 : decode cX5_write 69 = .ok (.aload_n 0, 1) := by decide +kernel
theorem dX5_write_70 : decode cX5_write 70 = .ok (.getfield 7, 3) := by decide +kernel
theorem dX5_write_73 : decode cX5_write 73 = .ok (.iload_n 1, 1) := by decide +kernel
theorem dX5_write_74 : decode cX5_write 74 = .ok (.iaload, 1) := by decide +kernel
theorem dX5_write_75 : decode cX5_write 75 = .ok (.aload_n 0, 1) := by decide +kernel
theorem dX5_write_76 : decode cX5_write 76 = .ok (.iload_n 3, 1) := by decide +kernel
theorem dX5_write_77 : decode cX5_write 77 = .ok (.invokevirtual 206, 3) := by decide +kernel
theorem dX5_write_80 : decode cX5_write 80 = .ok (.invokestatic 84, 3) := by decide +kernel
theorem dX5_write_83 : decode cX5_write 83 = .ok (.iastore, 1) := by decide +kernel
theorem dX5_write_84 : decode cX5_write 84 = .ok (.iinc 3 1, 3) := by decide +kernel
theorem dX5_write_87 : decode cX5_write 87 = .ok (.goto (-33), 3) := by decide +kernel
theorem dX5_write_90 : decode cX5_write 90 = .ok (.iload_n 2, 1) := by decide +kernel
theorem dX5_write_91 : decode cX5_write 91 = .ok (.ireturn, 1) := by decide +kernel
theorem dX5_count_0 : decode cX5_count 0 = .ok (.iconst 0, 1) := by decide +kernel
theorem dX5_count_1 : decode cX5_count 1 = .ok (.istore_n 2, 1) := by decide +kernel
theorem dX5_count_2 : decode cX5_count 2 = .ok (.aload_n 0, 1) := by decide +kernel
theorem dX5_count_3 : decode cX5_count 3 = .ok (.invokevirtual 129, 3) := by decide +kernel
theorem dX5_count_6 : decode cX5_count 6 = .ok (.iload_n 1, 1) := by decide +kernel
theorem dX5_count_7 : decode cX5_count 7 = .ok (.tableswitch 119 0 8 #[49, 54, 59, 59, 68, 73, 78, 83, 114], 49) := by decide +kernel
theorem dX5_count_56 : decode cX5_count 56 = .ok (.aload_n 0, 1) := by decide +kernel
theorem dX5_count_57 : decode cX5_count 57 = .ok (.getfield 103, 3) := by decide +kernel
theorem dX5_count_60 : decode cX5_count 60 = .ok (.ireturn, 1) := by decide +kernel
theorem dX5_count_61 : decode cX5_count 61 = .ok (.aload_n 0, 1) := by decide +kernel
theorem dX5_count_62 : decode cX5_count 62 = .ok (.getfield 106, 3) := by decide +kernel
theorem dX5_count_65 : decode cX5_count 65 = .ok (.ireturn, 1) := by decide +kernel
theorem dX5_count_66 : decode cX5_count 66 = .ok (.aload_n 0, 1) := by decide +kernel
theorem dX5_count_67 : decode cX5_count 67 = .ok (.getfield 25, 3) := by decide +kernel
theorem dX5_count_70 : decode cX5_count 70 = .ok (.iload_n 1, 1) := by decide +kernel
theorem dX5_count_71 : decode cX5_count 71 = .ok (.iconst 2, 1) := by decide +kernel
theorem dX5_count_72 : decode cX5_count 72 = .ok (.isub, 1) := by decide +kernel
theorem dX5_count_73 : decode cX5_count 73 = .ok (.iaload, 1) := by decide +kernel
theorem dX5_count_74 : decode cX5_count 74 = .ok (.ireturn, 1) := by decide +kernel
theorem dX5_count_75 : decode cX5_count 75 = .ok (.aload_n 0, 1) := by decide +kernel
theorem dX5_count_76 : decode cX5_count 76 = .ok (.getfield 139, 3) := by decide +kernel
theorem dX5_count_79 : decode cX5_count 79 = .ok (.ireturn, 1) := by decide +kernel
theorem dX5_count_80 : decode cX5_count 80 = .ok (.aload_n 0, 1) := by decide +kernel
theorem dX5_count_81 : decode cX5_count 81 = .ok (.getfield 148, 3) := by decide +kernel
theorem dX5_count_84 : decode cX5_count 84 = .ok (.ireturn, 1) := by decide +kernel
theorem dX5_count_85 : decode cX5_count 85 = .ok (.aload_n 0, 1) := by decide +kernel
theorem dX5_count_86 : decode cX5_count 86 = .ok (.getfield 248, 3) := by decide +kernel
theorem dX5_count_89 : decode cX5_count 89 = .ok (.ireturn, 1) := by decide +kernel
theorem dX5_count_90 : decode cX5_count 90 = .ok (.iconst 0, 1) := by decide +kernel
theorem dX5_count_91 : decode cX5_count 91 = .ok (.istore_n 3, 1) := by decide +kernel
theorem dX5_count_92 : decode cX5_count 92 = .ok (.iload_n 3, 1) := by decide +kernel
theorem dX5_count_93 : decode cX5_count 93 = .ok (.aload_n 0, 1) := by decide +kernel
theorem dX5_count_94 : decode cX5_count 94 = .ok (.getfield 106, 3) := by decide +kernel
theorem dX5_count_97 : decode cX5_count 97 = .ok (.if_icmp .ge 22, 3) := by decide +kernel
theorem dX5_count_100 : decode cX5_count 100 = .ok (.iload_n 2, 1) := by decide +kernel
theorem dX5_count_101 : decode cX5_count 101 = .ok (.aload_n 0, 1) := by decide +kernel
theorem dX5_count_102 : decode cX5_count 102 = .ok (.getfield 31, 3) := by decide +kernel
theorem dX5_count_105 : decode cX5_count 105 = .ok (.iconst 5, 1) := by decide +kernel
theorem dX5_count_106 : decode cX5_count 106 = .ok (.iload_n 3, 1) := by decide +kernel
theorem dX5_count_107 : decode cX5_count 107 = .ok (.imul, 1) := by decide +kernel
theorem dX5_count_108 : decode cX5_count 108 = .ok (.iconst 3, 1) := by decide +kernel
theorem dX5_count_109 : decode cX5_count 109 = .ok (.iadd, 1) := by decide +kernel
theorem dX5_count_110 : decode cX5_count 110 = .ok (.iaload, 1) := by decide +kernel
theorem dX5_count_111 : decode cX5_count 111 = .ok (.iadd, 1) := by decide +kernel
theorem dX5_count_112 : decode cX5_count 112 = .ok (.istore_n 2, 1) := by decide +kernel
theorem dX5_count_113 : decode cX5_count 113 = .ok (.iinc 3 1, 3) := by decide +kernel
theorem dX5_count_116 : decode cX5_count 116 = .ok (.goto (-24), 3) := by decide +kernel
theorem dX5_count_119 : decode cX5_count 119 = .ok (.iload_n 2, 1) := by decide +kernel
theorem dX5_count_120 : decode cX5_count 120 = .ok (.ireturn, 1) := by decide +kernel
theorem dX5_count_121 : decode cX5_count 121 = .ok (.aload_n 0, 1) := by decide +kernel
theorem dX5_count_122 : decode cX5_count 122 = .ok (.getfield 65, 3) := by decide +kernel
theorem dX5_count_125 : decode cX5_count 125 = .ok (.ireturn, 1) := by decide +kernel
theorem dX5_count_126 : decode cX5_count 126 = .ok (.bipush (-2), 2) := by decide +kernel
theorem dX5_count_128 : decode cX5_count 128 = .ok (.ireturn, 1) := by decide +kernel
theorem dX5_tellsTurns_0 : decode cX5_tellsTurns 0 = .ok (.lload_n 1, 1) := by decide +kernel
theorem dX5_tellsTurns_1 : decode cX5_tellsTurns 1 = .ok (.lstore 4, 2) := by decide +kernel
theorem dX5_tellsTurns_3 : decode cX5_tellsTurns 3 = .ok (.iconst 0, 1) := by decide +kernel
theorem dX5_tellsTurns_4 : decode cX5_tellsTurns 4 = .ok (.istore 6, 2) := by decide +kernel
theorem dX5_tellsTurns_6 : decode cX5_tellsTurns 6 = .ok (.iload 6, 2) := by decide +kernel
theorem dX5_tellsTurns_8 : decode cX5_tellsTurns 8 = .ok (.iconst 3, 1) := by decide +kernel
theorem dX5_tellsTurns_9 : decode cX5_tellsTurns 9 = .ok (.if_icmp .ge 26, 3) := by decide +kernel
theorem dX5_tellsTurns_12 : decode cX5_tellsTurns 12 = .ok (.ldc2_w 280, 3) := by decide +kernel
theorem dX5_tellsTurns_15 : decode cX5_tellsTurns 15 = .ok (.lload 4, 2) := by decide +kernel
theorem dX5_tellsTurns_17 : decode cX5_tellsTurns 17 = .ok (.lmul, 1) := by decide +kernel
theorem dX5_tellsTurns_18 : decode cX5_tellsTurns 18 = .ok (.aload_n 0, 1) := by decide +kernel
theorem dX5_tellsTurns_19 : decode cX5_tellsTurns 19 = .ok (.iload_n 3, 1) := by decide +kernel
theorem dX5_tellsTurns_20 : decode cX5_tellsTurns 20 = .ok (.iload 6, 2) := by decide +kernel
theorem dX5_tellsTurns_22 : decode cX5_tellsTurns 22 = .ok (.invokevirtual 200, 3) := by decide +kernel
theorem dX5_tellsTurns_25 : decode cX5_tellsTurns 25 = .ok (.i2l, 1) := by decide +kernel
theorem dX5_tellsTurns_26 : decode cX5_tellsTurns 26 = .ok (.ladd, 1) := by decide +kernel
theorem dX5_tellsTurns_27 : decode cX5_tellsTurns 27 = .ok (.lstore 4, 2) := by decide +kernel
theorem dX5_tellsTurns_29 : decode cX5_tellsTurns 29 = .ok (.iinc 6 1, 3) := by decide +kernel
theorem dX5_tellsTurns_32 : decode cX5_tellsTurns 32 = .ok (.goto (-26), 3) := by decide +kernel
theorem dX5_tellsTurns_35 : decode cX5_tellsTurns 35 = .ok (.ldc2_w 280, 3) := by decide +kernel
theorem dX5_tellsTurns_38 : decode cX5_tellsTurns 38 = .ok (.lload 4, 2) := by decide +kernel
theorem dX5_tellsTurns_40 : decode cX5_tellsTurns 40 = .ok (.lmul, 1) := by decide +kernel
theorem dX5_tellsTurns_41 : decode cX5_tellsTurns 41 = .ok (.aload_n 0, 1) := by decide +kernel
theorem dX5_tellsTurns_42 : decode cX5_tellsTurns 42 = .ok (.iload_n 3, 1) := by decide +kernel
theorem dX5_tellsTurns_43 : decode cX5_tellsTurns 43 = .ok (.invokevirtual 218, 3) := by decide +kernel
theorem dX5_tellsTurns_46 : decode cX5_tellsTurns 46 = .ok (.i2l, 1) := by decide +kernel
theorem dX5_tellsTurns_47 : decode cX5_tellsTurns 47 = .ok (.ladd, 1) := by decide +kernel
theorem dX5_tellsTurns_48 : decode cX5_tellsTurns 48 = .ok (.lstore 4, 2) := by decide +kernel
theorem dX5_tellsTurns_50 : decode cX5_tellsTurns 50 = .ok (.aload_n 0, 1) := by decide +kernel
theorem dX5_tellsTurns_51 : decode cX5_tellsTurns 51 = .ok (.iload_n 3, 1) := by decide +kernel
theorem dX5_tellsTurns_52 : decode cX5_tellsTurns 52 = .ok (.iconst 1, 1) := by decide +kernel
theorem dX5_tellsTurns_53 : decode cX5_tellsTurns 53 = .ok (.iconst 2, 1) := by decide +kernel
theorem dX5_tellsTurns_54 : decode cX5_tellsTurns 54 = .ok (.invokevirtual 230, 3) := by decide +kernel
theorem dX5_tellsTurns_57 : decode cX5_tellsTurns 57 = .ok (.istore 6, 2) := by decide +kernel
theorem dX5_tellsTurns_59 : decode cX5_tellsTurns 59 = .ok (.ldc2_w 280, 3) := by decide +kernel
theorem dX5_tellsTurns_62 : decode cX5_tellsTurns 62 = .ok (.lload 4, 2) := by decide +kernel
theorem dX5_tellsTurns_64 : decode cX5_tellsTurns 64 = .ok (.lmul, 1) := by decide +kernel
theorem dX5_tellsTurns_65 : decode cX5_tellsTurns 65 = .ok (.iload 6, 2) := by decide +kernel
theorem dX5_tellsTurns_67 : decode cX5_tellsTurns 67 = .ok (.iconst 0, 1) := by decide +kernel
theorem dX5_tellsTurns_68 : decode cX5_tellsTurns 68 = .ok (.invokestatic 233, 3) := by decide +kernel
theorem dX5_tellsTurns_71 : decode cX5_tellsTurns 71 = .ok (.i2l, 1) := by decide +kernel
theorem dX5_tellsTurns_72 : decode cX5_tellsTurns 72 = .ok (.ladd, 1) := by decide +kernel
theorem dX5_tellsTurns_73 : decode cX5_tellsTurns 73 = .ok (.lstore 4, 2) := by decide +kernel
theorem dX5_tellsTurns_75 : decode cX5_tellsTurns 75 = .ok (.ldc2_w 280, 3) := by decide +kernel
theorem dX5_tellsTurns_78 : decode cX5_tellsTurns 78 = .ok (.lload 4, 2) := by decide +kernel
theorem dX5_tellsTurns_80 : decode cX5_tellsTurns 80 = .ok (.lmul, 1) := by decide +kernel
theorem dX5_tellsTurns_81 : decode cX5_tellsTurns 81 = .ok (.iload 6, 2) := by decide +kernel
theorem dX5_tellsTurns_83 : decode cX5_tellsTurns 83 = .ok (.iconst 1, 1) := by decide +kernel
theorem dX5_tellsTurns_84 : decode cX5_tellsTurns 84 = .ok (.invokestatic 233, 3) := by decide +kernel
theorem dX5_tellsTurns_87 : decode cX5_tellsTurns 87 = .ok (.i2l, 1) := by decide +kernel
theorem dX5_tellsTurns_88 : decode cX5_tellsTurns 88 = .ok (.ladd, 1) := by decide +kernel
theorem dX5_tellsTurns_89 : decode cX5_tellsTurns 89 = .ok (.lstore 4, 2) := by decide +kernel
theorem dX5_tellsTurns_91 : decode cX5_tellsTurns 91 = .ok (.aload_n 0, 1) := by decide +kernel
theorem dX5_tellsTurns_92 : decode cX5_tellsTurns 92 = .ok (.iload_n 3, 1) := by decide +kernel
theorem dX5_tellsTurns_93 : decode cX5_tellsTurns 93 = .ok (.iconst 3, 1) := by decide +kernel
theorem dX5_tellsTurns_94 : decode cX5_tellsTurns 94 = .ok (.invokevirtual 236, 3) := by decide +kernel
theorem dX5_tellsTurns_97 : decode cX5_tellsTurns 97 = .ok (.istore 7, 2) := by decide +kernel
theorem dX5_tellsTurns_99 : decode cX5_tellsTurns 99 = .ok (.ldc2_w 280, 3) := by decide +kernel
theorem dX5_tellsTurns_102 : decode cX5_tellsTurns 102 = .ok (.lload 4, 2) := by decide +kernel
theorem dX5_tellsTurns_104 : decode cX5_tellsTurns 104 = .ok (.lmul, 1) := by decide +kernel
theorem dX5_tellsTurns_105 : decode cX5_tellsTurns 105 = .ok (.iload 7, 2) := by decide +kernel
theorem dX5_tellsTurns_107 : decode cX5_tellsTurns 107 = .ok (.iconst 0, 1) := by decide +kernel
theorem dX5_tellsTurns_108 : decode cX5_tellsTurns 108 = .ok (.invokestatic 233, 3) := by decide +kernel
theorem dX5_tellsTurns_111 : decode cX5_tellsTurns 111 = .ok (.i2l, 1) := by decide +kernel
theorem dX5_tellsTurns_112 : decode cX5_tellsTurns 112 = .ok (.ladd, 1) := by decide +kernel
theorem dX5_tellsTurns_113 : decode cX5_tellsTurns 113 = .ok (.lstore 4, 2) := by decide +kernel
theorem dX5_tellsTurns_115 : decode cX5_tellsTurns 115 = .ok (.ldc2_w 280, 3) := by decide +kernel
theorem dX5_tellsTurns_118 : decode cX5_tellsTurns 118 = .ok (.lload 4, 2) := by decide +kernel
theorem dX5_tellsTurns_120 : decode cX5_tellsTurns 120 = .ok (.lmul, 1) := by decide +kernel
theorem dX5_tellsTurns_121 : decode cX5_tellsTurns 121 = .ok (.iload 7, 2) := by decide +kernel
theorem dX5_tellsTurns_123 : decode cX5_tellsTurns 123 = .ok (.iconst 1, 1) := by decide +kernel
theorem dX5_tellsTurns_124 : decode cX5_tellsTurns 124 = .ok (.invokestatic 233, 3) := by decide +kernel
theorem dX5_tellsTurns_127 : decode cX5_tellsTurns 127 = .ok (.i2l, 1) := by decide +kernel
theorem dX5_tellsTurns_128 : decode cX5_tellsTurns 128 = .ok (.ladd, 1) := by decide +kernel
theorem dX5_tellsTurns_129 : decode cX5_tellsTurns 129 = .ok (.lstore 4, 2) := by decide +kernel
theorem dX5_tellsTurns_131 : decode cX5_tellsTurns 131 = .ok (.ldc2_w 280, 3) := by decide +kernel
theorem dX5_tellsTurns_134 : decode cX5_tellsTurns 134 = .ok (.lload 4, 2) := by decide +kernel
theorem dX5_tellsTurns_136 : decode cX5_tellsTurns 136 = .ok (.lmul, 1) := by decide +kernel
theorem dX5_tellsTurns_137 : decode cX5_tellsTurns 137 = .ok (.aload_n 0, 1) := by decide +kernel
theorem dX5_tellsTurns_138 : decode cX5_tellsTurns 138 = .ok (.iload_n 3, 1) := by decide +kernel
theorem dX5_tellsTurns_139 : decode cX5_tellsTurns 139 = .ok (.iconst 0, 1) := by decide +kernel
theorem dX5_tellsTurns_140 : decode cX5_tellsTurns 140 = .ok (.invokevirtual 242, 3) := by decide +kernel
theorem dX5_tellsTurns_143 : decode cX5_tellsTurns 143 = .ok (.i2l, 1) := by decide +kernel
theorem dX5_tellsTurns_144 : decode cX5_tellsTurns 144 = .ok (.ladd, 1) := by decide +kernel
theorem dX5_tellsTurns_145 : decode cX5_tellsTurns 145 = .ok (.lreturn, 1) := by decide +kernel
theorem dX5_tellsLaw_0 : decode cX5_tellsLaw 0 = .ok (.ldc2_w 280, 3) := by decide +kernel
theorem dX5_tellsLaw_3 : decode cX5_tellsLaw 3 = .ok (.lload_n 1, 1) := by decide +kernel
theorem dX5_tellsLaw_4 : decode cX5_tellsLaw 4 = .ok (.lmul, 1) := by decide +kernel
theorem dX5_tellsLaw_5 : decode cX5_tellsLaw 5 = .ok (.aload_n 0, 1) := by decide +kernel
theorem dX5_tellsLaw_6 : decode cX5_tellsLaw 6 = .ok (.iload_n 3, 1) := by decide +kernel
theorem dX5_tellsLaw_7 : decode cX5_tellsLaw 7 = .ok (.invokevirtual 215, 3) := by decide +kernel
theorem dX5_tellsLaw_10 : decode cX5_tellsLaw 10 = .ok (.i2l, 1) := by decide +kernel
theorem dX5_tellsLaw_11 : decode cX5_tellsLaw 11 = .ok (.ladd, 1) := by decide +kernel
theorem dX5_tellsLaw_12 : decode cX5_tellsLaw 12 = .ok (.lstore 4, 2) := by decide +kernel
theorem dX5_tellsLaw_14 : decode cX5_tellsLaw 14 = .ok (.ldc2_w 280, 3) := by decide +kernel
theorem dX5_tellsLaw_17 : decode cX5_tellsLaw 17 = .ok (.lload 4, 2) := by decide +kernel
theorem dX5_tellsLaw_19 : decode cX5_tellsLaw 19 = .ok (.lmul, 1) := by decide +kernel
theorem dX5_tellsLaw_20 : decode cX5_tellsLaw 20 = .ok (.aload_n 0, 1) := by decide +kernel
theorem dX5_tellsLaw_21 : decode cX5_tellsLaw 21 = .ok (.iload_n 3, 1) := by decide +kernel
theorem dX5_tellsLaw_22 : decode cX5_tellsLaw 22 = .ok (.iconst 0, 1) := by decide +kernel
theorem dX5_tellsLaw_23 : decode cX5_tellsLaw 23 = .ok (.invokevirtual 245, 3) := by decide +kernel
theorem dX5_tellsLaw_26 : decode cX5_tellsLaw 26 = .ok (.i2l, 1) := by decide +kernel
theorem dX5_tellsLaw_27 : decode cX5_tellsLaw 27 = .ok (.ladd, 1) := by decide +kernel
theorem dX5_tellsLaw_28 : decode cX5_tellsLaw 28 = .ok (.lstore 4, 2) := by decide +kernel
theorem dX5_tellsLaw_30 : decode cX5_tellsLaw 30 = .ok (.ldc2_w 280, 3) := by decide +kernel
theorem dX5_tellsLaw_33 : decode cX5_tellsLaw 33 = .ok (.lload 4, 2) := by decide +kernel
theorem dX5_tellsLaw_35 : decode cX5_tellsLaw 35 = .ok (.lmul, 1) := by decide +kernel
theorem dX5_tellsLaw_36 : decode cX5_tellsLaw 36 = .ok (.aload_n 0, 1) := by decide +kernel
theorem dX5_tellsLaw_37 : decode cX5_tellsLaw 37 = .ok (.iload_n 3, 1) := by decide +kernel
theorem dX5_tellsLaw_38 : decode cX5_tellsLaw 38 = .ok (.iconst 1, 1) := by decide +kernel
theorem dX5_tellsLaw_39 : decode cX5_tellsLaw 39 = .ok (.invokevirtual 245, 3) := by decide +kernel
theorem dX5_tellsLaw_42 : decode cX5_tellsLaw 42 = .ok (.i2l, 1) := by decide +kernel
theorem dX5_tellsLaw_43 : decode cX5_tellsLaw 43 = .ok (.ladd, 1) := by decide +kernel
theorem dX5_tellsLaw_44 : decode cX5_tellsLaw 44 = .ok (.lstore 4, 2) := by decide +kernel
theorem dX5_tellsLaw_46 : decode cX5_tellsLaw 46 = .ok (.ldc2_w 280, 3) := by decide +kernel
theorem dX5_tellsLaw_49 : decode cX5_tellsLaw 49 = .ok (.lload 4, 2) := by decide +kernel
theorem dX5_tellsLaw_51 : decode cX5_tellsLaw 51 = .ok (.lmul, 1) := by decide +kernel
theorem dX5_tellsLaw_52 : decode cX5_tellsLaw 52 = .ok (.aload_n 0, 1) := by decide +kernel
theorem dX5_tellsLaw_53 : decode cX5_tellsLaw 53 = .ok (.iconst 5, 1) := by decide +kernel
theorem dX5_tellsLaw_54 : decode cX5_tellsLaw 54 = .ok (.iconst 1, 1) := by decide +kernel
theorem dX5_tellsLaw_55 : decode cX5_tellsLaw 55 = .ok (.iload_n 3, 1) := by decide +kernel
theorem dX5_tellsLaw_56 : decode cX5_tellsLaw 56 = .ok (.iconst 0, 1) := by decide +kernel
theorem dX5_tellsLaw_57 : decode cX5_tellsLaw 57 = .ok (.invokevirtual 266, 3) := by decide +kernel
theorem dX5_tellsLaw_60 : decode cX5_tellsLaw 60 = .ok (.ladd, 1) := by decide +kernel
theorem dX5_tellsLaw_61 : decode cX5_tellsLaw 61 = .ok (.lstore 4, 2) := by decide +kernel
theorem dX5_tellsLaw_63 : decode cX5_tellsLaw 63 = .ok (.ldc2_w 280, 3) := by decide +kernel
theorem dX5_tellsLaw_66 : decode cX5_tellsLaw 66 = .ok (.lload 4, 2) := by decide +kernel
theorem dX5_tellsLaw_68 : decode cX5_tellsLaw 68 = .ok (.lmul, 1) := by decide +kernel
theorem dX5_tellsLaw_69 : decode cX5_tellsLaw 69 = .ok (.aload_n 0, 1) := by decide +kernel
theorem dX5_tellsLaw_70 : decode cX5_tellsLaw 70 = .ok (.iconst 5, 1) := by decide +kernel
theorem dX5_tellsLaw_71 : decode cX5_tellsLaw 71 = .ok (.iconst 1, 1) := by decide +kernel
theorem dX5_tellsLaw_72 : decode cX5_tellsLaw 72 = .ok (.iload_n 3, 1) := by decide +kernel
theorem dX5_tellsLaw_73 : decode cX5_tellsLaw 73 = .ok (.iconst 1, 1) := by decide +kernel
theorem dX5_tellsLaw_74 : decode cX5_tellsLaw 74 = .ok (.invokevirtual 266, 3) := by decide +kernel
theorem dX5_tellsLaw_77 : decode cX5_tellsLaw 77 = .ok (.ladd, 1) := by decide +kernel
theorem dX5_tellsLaw_78 : decode cX5_tellsLaw 78 = .ok (.lstore 4, 2) := by decide +kernel
theorem dX5_tellsLaw_80 : decode cX5_tellsLaw 80 = .ok (.ldc2_w 280, 3) := by decide +kernel
theorem dX5_tellsLaw_83 : decode cX5_tellsLaw 83 = .ok (.lload 4, 2) := by decide +kernel
theorem dX5_tellsLaw_85 : decode cX5_tellsLaw 85 = .ok (.lmul, 1) := by decide +kernel
theorem dX5_tellsLaw_86 : decode cX5_tellsLaw 86 = .ok (.aload_n 0, 1) := by decide +kernel
theorem dX5_tellsLaw_87 : decode cX5_tellsLaw 87 = .ok (.bipush 7, 2) := by decide +kernel
theorem dX5_tellsLaw_89 : decode cX5_tellsLaw 89 = .ok (.bipush 20, 2) := by decide +kernel
theorem dX5_tellsLaw_91 : decode cX5_tellsLaw 91 = .ok (.iload_n 3, 1) := by decide +kernel
theorem dX5_tellsLaw_92 : decode cX5_tellsLaw 92 = .ok (.invokevirtual 277, 3) := by decide +kernel
theorem dX5_tellsLaw_95 : decode cX5_tellsLaw 95 = .ok (.i2l, 1) := by decide +kernel
theorem dX5_tellsLaw_96 : decode cX5_tellsLaw 96 = .ok (.ladd, 1) := by decide +kernel
theorem dX5_tellsLaw_97 : decode cX5_tellsLaw 97 = .ok (.lreturn, 1) := by decide +kernel
theorem dX5_digest_0 : decode cX5_digest 0 = .ok (.ldc2_w 282, 3) := by decide +kernel
theorem dX5_digest_3 : decode cX5_digest 3 = .ok (.lstore_n 1, 1) := by decide +kernel
theorem dX5_digest_4 : decode cX5_digest 4 = .ok (.iconst 0, 1) := by decide +kernel
theorem dX5_digest_5 : decode cX5_digest 5 = .ok (.istore_n 3, 1) := by decide +kernel
theorem dX5_digest_6 : decode cX5_digest 6 = .ok (.iload_n 3, 1) := by decide +kernel
theorem dX5_digest_7 : decode cX5_digest 7 = .ok (.bipush 8, 2) := by decide +kernel
theorem dX5_digest_9 : decode cX5_digest 9 = .ok (.if_icmp .ge 22, 3) := by decide +kernel
theorem dX5_digest_12 : decode cX5_digest 12 = .ok (.ldc2_w 280, 3) := by decide +kernel
theorem dX5_digest_15 : decode cX5_digest 15 = .ok (.lload_n 1, 1) := by decide +kernel
theorem dX5_digest_16 : decode cX5_digest 16 = .ok (.lmul, 1) := by decide +kernel
theorem dX5_digest_17 : decode cX5_digest 17 = .ok (.aload_n 0, 1) := by decide +kernel
theorem dX5_digest_18 : decode cX5_digest 18 = .ok (.iload_n 3, 1) := by decide +kernel
theorem dX5_digest_19 : decode cX5_digest 19 = .ok (.invokevirtual 284, 3) := by decide +kernel
theorem dX5_digest_22 : decode cX5_digest 22 = .ok (.i2l, 1) := by decide +kernel
theorem dX5_digest_23 : decode cX5_digest 23 = .ok (.ladd, 1) := by decide +kernel
theorem dX5_digest_24 : decode cX5_digest 24 = .ok (.lstore_n 1, 1) := by decide +kernel
theorem dX5_digest_25 : decode cX5_digest 25 = .ok (.iinc 3 1, 3) := by decide +kernel
theorem dX5_digest_28 : decode cX5_digest 28 = .ok (.goto (-22), 3) := by decide +kernel
theorem dX5_digest_31 : decode cX5_digest 31 = .ok (.ldc2_w 280, 3) := by decide +kernel
theorem dX5_digest_34 : decode cX5_digest 34 = .ok (.lload_n 1, 1) := by decide +kernel
theorem dX5_digest_35 : decode cX5_digest 35 = .ok (.lmul, 1) := by decide +kernel
theorem dX5_digest_36 : decode cX5_digest 36 = .ok (.aload_n 0, 1) := by decide +kernel
theorem dX5_digest_37 : decode cX5_digest 37 = .ok (.iconst 0, 1) := by decide +kernel
theorem dX5_digest_38 : decode cX5_digest 38 = .ok (.invokevirtual 122, 3) := by decide +kernel
theorem dX5_digest_41 : decode cX5_digest 41 = .ok (.i2l, 1) := by decide +kernel
theorem dX5_digest_42 : decode cX5_digest 42 = .ok (.ladd, 1) := by decide +kernel
theorem dX5_digest_43 : decode cX5_digest 43 = .ok (.lstore_n 1, 1) := by decide +kernel
theorem dX5_digest_44 : decode cX5_digest 44 = .ok (.ldc2_w 280, 3) := by decide +kernel
theorem dX5_digest_47 : decode cX5_digest 47 = .ok (.lload_n 1, 1) := by decide +kernel
theorem dX5_digest_48 : decode cX5_digest 48 = .ok (.lmul, 1) := by decide +kernel
theorem dX5_digest_49 : decode cX5_digest 49 = .ok (.aload_n 0, 1) := by decide +kernel
theorem dX5_digest_50 : decode cX5_digest 50 = .ok (.iconst 1, 1) := by decide +kernel
theorem dX5_digest_51 : decode cX5_digest 51 = .ok (.invokevirtual 122, 3) := by decide +kernel
theorem dX5_digest_54 : decode cX5_digest 54 = .ok (.i2l, 1) := by decide +kernel
theorem dX5_digest_55 : decode cX5_digest 55 = .ok (.ladd, 1) := by decide +kernel
theorem dX5_digest_56 : decode cX5_digest 56 = .ok (.lstore_n 1, 1) := by decide +kernel
theorem dX5_digest_57 : decode cX5_digest 57 = .ok (.iconst 0, 1) := by decide +kernel
theorem dX5_digest_58 : decode cX5_digest 58 = .ok (.istore_n 3, 1) := by decide +kernel
theorem dX5_digest_59 : decode cX5_digest 59 = .ok (.iload_n 3, 1) := by decide +kernel
theorem dX5_digest_60 : decode cX5_digest 60 = .ok (.aload_n 0, 1) := by decide +kernel
theorem dX5_digest_61 : decode cX5_digest 61 = .ok (.getfield 103, 3) := by decide +kernel
theorem dX5_digest_64 : decode cX5_digest 64 = .ok (.if_icmp .ge 43, 3) := by decide +kernel
theorem dX5_digest_67 : decode cX5_digest 67 = .ok (.iconst 0, 1) := by decide +kernel
theorem dX5_digest_68 : decode cX5_digest 68 = .ok (.istore 4, 2) := by decide +kernel
theorem dX5_digest_70 : decode cX5_digest 70 = .ok (.iload 4, 2) := by decide +kernel
theorem dX5_digest_72 : decode cX5_digest 72 = .ok (.iconst 3, 1) := by decide +kernel
theorem dX5_digest_73 : decode cX5_digest 73 = .ok (.if_icmp .ge 28, 3) := by decide +kernel
theorem dX5_digest_76 : decode cX5_digest 76 = .ok (.ldc2_w 280, 3) := by decide +kernel
theorem dX5_digest_79 : decode cX5_digest 79 = .ok (.lload_n 1, 1) := by decide +kernel
theorem dX5_digest_80 : decode cX5_digest 80 = .ok (.lmul, 1) := by decide +kernel
theorem dX5_digest_81 : decode cX5_digest 81 = .ok (.aload_n 0, 1) := by decide +kernel
theorem dX5_digest_82 : decode cX5_digest 82 = .ok (.getfield 28, 3) := by decide +kernel
theorem dX5_digest_85 : decode cX5_digest 85 = .ok (.iconst 3, 1) := by decide +kernel
theorem dX5_digest_86 : decode cX5_digest 86 = .ok (.iload_n 3, 1) := by decide +kernel
theorem dX5_digest_87 : decode cX5_digest 87 = .ok (.imul, 1) := by decide +kernel
theorem dX5_digest_88 : decode cX5_digest 88 = .ok (.iload 4, 2) := by decide +kernel
theorem dX5_digest_90 : decode cX5_digest 90 = .ok (.iadd, 1) := by decide +kernel
theorem dX5_digest_91 : decode cX5_digest 91 = .ok (.iaload, 1) := by decide +kernel
theorem dX5_digest_92 : decode cX5_digest 92 = .ok (.i2l, 1) := by decide +kernel
theorem dX5_digest_93 : decode cX5_digest 93 = .ok (.ladd, 1) := by decide +kernel
theorem dX5_digest_94 : decode cX5_digest 94 = .ok (.lstore_n 1, 1) := by decide +kernel
theorem dX5_digest_95 : decode cX5_digest 95 = .ok (.iinc 4 1, 3) := by decide +kernel
theorem dX5_digest_98 : decode cX5_digest 98 = .ok (.goto (-28), 3) := by decide +kernel
theorem dX5_digest_101 : decode cX5_digest 101 = .ok (.iinc 3 1, 3) := by decide +kernel
theorem dX5_digest_104 : decode cX5_digest 104 = .ok (.goto (-45), 3) := by decide +kernel
theorem dX5_digest_107 : decode cX5_digest 107 = .ok (.iconst 0, 1) := by decide +kernel
theorem dX5_digest_108 : decode cX5_digest 108 = .ok (.istore_n 3, 1) := by decide +kernel
theorem dX5_digest_109 : decode cX5_digest 109 = .ok (.iload_n 3, 1) := by decide +kernel
theorem dX5_digest_110 : decode cX5_digest 110 = .ok (.aload_n 0, 1) := by decide +kernel
theorem dX5_digest_111 : decode cX5_digest 111 = .ok (.getfield 106, 3) := by decide +kernel
theorem dX5_digest_114 : decode cX5_digest 114 = .ok (.if_icmp .ge 43, 3) := by decide +kernel
theorem dX5_digest_117 : decode cX5_digest 117 = .ok (.iconst 0, 1) := by decide +kernel
theorem dX5_digest_118 : decode cX5_digest 118 = .ok (.istore 4, 2) := by decide +kernel
theorem dX5_digest_120 : decode cX5_digest 120 = .ok (.iload 4, 2) := by decide +kernel
theorem dX5_digest_122 : decode cX5_digest 122 = .ok (.iconst 5, 1) := by decide +kernel
theorem dX5_digest_123 : decode cX5_digest 123 = .ok (.if_icmp .ge 28, 3) := by decide +kernel
theorem dX5_digest_126 : decode cX5_digest 126 = .ok (.ldc2_w 280, 3) := by decide +kernel
theorem dX5_digest_129 : decode cX5_digest 129 = .ok (.lload_n 1, 1) := by decide +kernel
theorem dX5_digest_130 : decode cX5_digest 130 = .ok (.lmul, 1) := by decide +kernel
theorem dX5_digest_131 : decode cX5_digest 131 = .ok (.aload_n 0, 1) := by decide +kernel
theorem dX5_digest_132 : decode cX5_digest 132 = .ok (.getfield 31, 3) := by decide +kernel
theorem dX5_digest_135 : decode cX5_digest 135 = .ok (.iconst 5, 1) := by decide +kernel
theorem dX5_digest_136 : decode cX5_digest 136 = .ok (.iload_n 3, 1) := by decide +kernel
theorem dX5_digest_137 : decode cX5_digest 137 = .ok (.imul, 1) := by decide +kernel
theorem dX5_digest_138 : decode cX5_digest 138 = .ok (.iload 4, 2) := by decide +kernel
theorem dX5_digest_140 : decode cX5_digest 140 = .ok (.iadd, 1) := by decide +kernel
theorem dX5_digest_141 : decode cX5_digest 141 = .ok (.iaload, 1) := by decide +kernel
theorem dX5_digest_142 : decode cX5_digest 142 = .ok (.i2l, 1) := by decide +kernel
theorem dX5_digest_143 : decode cX5_digest 143 = .ok (.ladd, 1) := by decide +kernel
theorem dX5_digest_144 : decode cX5_digest 144 = .ok (.lstore_n 1, 1) := by decide +kernel
theorem dX5_digest_145 : decode cX5_digest 145 = .ok (.iinc 4 1, 3) := by decide +kernel
theorem dX5_digest_148 : decode cX5_digest 148 = .ok (.goto (-28), 3) := by decide +kernel
theorem dX5_digest_151 : decode cX5_digest 151 = .ok (.iinc 3 1, 3) := by decide +kernel
theorem dX5_digest_154 : decode cX5_digest 154 = .ok (.goto (-45), 3) := by decide +kernel
theorem dX5_digest_157 : decode cX5_digest 157 = .ok (.iconst 0, 1) := by decide +kernel
theorem dX5_digest_158 : decode cX5_digest 158 = .ok (.istore_n 3, 1) := by decide +kernel
theorem dX5_digest_159 : decode cX5_digest 159 = .ok (.iload_n 3, 1) := by decide +kernel
theorem dX5_digest_160 : decode cX5_digest 160 = .ok (.iconst 4, 1) := by decide +kernel
theorem dX5_digest_161 : decode cX5_digest 161 = .ok (.if_icmp .ge 16, 3) := by decide +kernel
theorem dX5_digest_164 : decode cX5_digest 164 = .ok (.aload_n 0, 1) := by decide +kernel
theorem dX5_digest_165 : decode cX5_digest 165 = .ok (.lload_n 1, 1) := by decide +kernel
theorem dX5_digest_166 : decode cX5_digest 166 = .ok (.iload_n 3, 1) := by decide +kernel
theorem dX5_digest_167 : decode cX5_digest 167 = .ok (.invokevirtual 287, 3) := by decide +kernel
theorem dX5_digest_170 : decode cX5_digest 170 = .ok (.lstore_n 1, 1) := by decide +kernel
theorem dX5_digest_171 : decode cX5_digest 171 = .ok (.iinc 3 1, 3) := by decide +kernel
theorem dX5_digest_174 : decode cX5_digest 174 = .ok (.goto (-15), 3) := by decide +kernel
theorem dX5_digest_177 : decode cX5_digest 177 = .ok (.iconst 0, 1) := by decide +kernel
theorem dX5_digest_178 : decode cX5_digest 178 = .ok (.istore_n 3, 1) := by decide +kernel
theorem dX5_digest_179 : decode cX5_digest 179 = .ok (.iload_n 3, 1) := by decide +kernel
theorem dX5_digest_180 : decode cX5_digest 180 = .ok (.bipush 8, 2) := by decide +kernel
theorem dX5_digest_182 : decode cX5_digest 182 = .ok (.if_icmp .ge 16, 3) := by decide +kernel
theorem dX5_digest_185 : decode cX5_digest 185 = .ok (.aload_n 0, 1) := by decide +kernel
theorem dX5_digest_186 : decode cX5_digest 186 = .ok (.lload_n 1, 1) := by decide +kernel
theorem dX5_digest_187 : decode cX5_digest 187 = .ok (.iload_n 3, 1) := by decide +kernel
theorem dX5_digest_188 : decode cX5_digest 188 = .ok (.invokevirtual 291, 3) := by decide +kernel
theorem dX5_digest_191 : decode cX5_digest 191 = .ok (.lstore_n 1, 1) := by decide +kernel
theorem dX5_digest_192 : decode cX5_digest 192 = .ok (.iinc 3 1, 3) := by decide +kernel
theorem dX5_digest_195 : decode cX5_digest 195 = .ok (.goto (-16), 3) := by decide +kernel
theorem dX5_digest_198 : decode cX5_digest 198 = .ok (.ldc2_w 280, 3) := by decide +kernel
theorem dX5_digest_201 : decode cX5_digest 201 = .ok (.lload_n 1, 1) := by decide +kernel
theorem dX5_digest_202 : decode cX5_digest 202 = .ok (.lmul, 1) := by decide +kernel
theorem dX5_digest_203 : decode cX5_digest 203 = .ok (.aload_n 0, 1) := by decide +kernel
theorem dX5_digest_204 : decode cX5_digest 204 = .ok (.invokevirtual 209, 3) := by decide +kernel
theorem dX5_digest_207 : decode cX5_digest 207 = .ok (.i2l, 1) := by decide +kernel
theorem dX5_digest_208 : decode cX5_digest 208 = .ok (.ladd, 1) := by decide +kernel
theorem dX5_digest_209 : decode cX5_digest 209 = .ok (.lstore_n 1, 1) := by decide +kernel
theorem dX5_digest_210 : decode cX5_digest 210 = .ok (.ldc2_w 280, 3) := by decide +kernel
theorem dX5_digest_213 : decode cX5_digest 213 = .ok (.lload_n 1, 1) := by decide +kernel
theorem dX5_digest_214 : decode cX5_digest 214 = .ok (.lmul, 1) := by decide +kernel
theorem dX5_digest_215 : decode cX5_digest 215 = .ok (.aload_n 0, 1) := by decide +kernel
theorem dX5_digest_216 : decode cX5_digest 216 = .ok (.invokevirtual 212, 3) := by decide +kernel
theorem dX5_digest_219 : decode cX5_digest 219 = .ok (.i2l, 1) := by decide +kernel
theorem dX5_digest_220 : decode cX5_digest 220 = .ok (.ladd, 1) := by decide +kernel
theorem dX5_digest_221 : decode cX5_digest 221 = .ok (.lstore_n 1, 1) := by decide +kernel
theorem dX5_digest_222 : decode cX5_digest 222 = .ok (.ldc2_w 280, 3) := by decide +kernel
theorem dX5_digest_225 : decode cX5_digest 225 = .ok (.lload_n 1, 1) := by decide +kernel
theorem dX5_digest_226 : decode cX5_digest 226 = .ok (.lmul, 1) := by decide +kernel
theorem dX5_digest_227 : decode cX5_digest 227 = .ok (.aload_n 0, 1) := by decide +kernel
theorem dX5_digest_228 : decode cX5_digest 228 = .ok (.iconst 5, 1) := by decide +kernel
theorem dX5_digest_229 : decode cX5_digest 229 = .ok (.invokevirtual 227, 3) := by decide +kernel
theorem dX5_digest_232 : decode cX5_digest 232 = .ok (.i2l, 1) := by decide +kernel
theorem dX5_digest_233 : decode cX5_digest 233 = .ok (.ladd, 1) := by decide +kernel
theorem dX5_digest_234 : decode cX5_digest 234 = .ok (.lstore_n 1, 1) := by decide +kernel
theorem dX5_digest_235 : decode cX5_digest 235 = .ok (.iconst 0, 1) := by decide +kernel
theorem dX5_digest_236 : decode cX5_digest 236 = .ok (.istore_n 3, 1) := by decide +kernel
theorem dX5_digest_237 : decode cX5_digest 237 = .ok (.iload_n 3, 1) := by decide +kernel
theorem dX5_digest_238 : decode cX5_digest 238 = .ok (.iconst 3, 1) := by decide +kernel
theorem dX5_digest_239 : decode cX5_digest 239 = .ok (.if_icmp .ge 22, 3) := by decide +kernel
theorem dX5_digest_242 : decode cX5_digest 242 = .ok (.ldc2_w 280, 3) := by decide +kernel
theorem dX5_digest_245 : decode cX5_digest 245 = .ok (.lload_n 1, 1) := by decide +kernel
theorem dX5_digest_246 : decode cX5_digest 246 = .ok (.lmul, 1) := by decide +kernel
theorem dX5_digest_247 : decode cX5_digest 247 = .ok (.aload_n 0, 1) := by decide +kernel
theorem dX5_digest_248 : decode cX5_digest 248 = .ok (.iload_n 3, 1) := by decide +kernel
theorem dX5_digest_249 : decode cX5_digest 249 = .ok (.invokevirtual 257, 3) := by decide +kernel
theorem dX5_digest_252 : decode cX5_digest 252 = .ok (.i2l, 1) := by decide +kernel
theorem dX5_digest_253 : decode cX5_digest 253 = .ok (.ladd, 1) := by decide +kernel
theorem dX5_digest_254 : decode cX5_digest 254 = .ok (.lstore_n 1, 1) := by decide +kernel
theorem dX5_digest_255 : decode cX5_digest 255 = .ok (.iinc 3 1, 3) := by decide +kernel
theorem dX5_digest_258 : decode cX5_digest 258 = .ok (.goto (-21), 3) := by decide +kernel
theorem dX5_digest_261 : decode cX5_digest 261 = .ok (.lload_n 1, 1) := by decide +kernel
theorem dX5_digest_262 : decode cX5_digest 262 = .ok (.lreturn, 1) := by decide +kernel
theorem dJ6_numberOfLeadingZeros_0f7a4_0 : decode cJ6_numberOfLeadingZeros_0f7a4 0 = .ok (.iload_n 0, 1) := by decide +kernel
theorem dJ6_numberOfLeadingZeros_0f7a4_1 : decode cJ6_numberOfLeadingZeros_0f7a4 1 = .ok (.ifCond .gt 14, 3) := by decide +kernel
theorem dJ6_numberOfLeadingZeros_0f7a4_4 : decode cJ6_numberOfLeadingZeros_0f7a4 4 = .ok (.iload_n 0, 1) := by decide +kernel
theorem dJ6_numberOfLeadingZeros_0f7a4_5 : decode cJ6_numberOfLeadingZeros_0f7a4 5 = .ok (.ifCond .ne 8, 3) := by decide +kernel
theorem dJ6_numberOfLeadingZeros_0f7a4_8 : decode cJ6_numberOfLeadingZeros_0f7a4 8 = .ok (.bipush 32, 2) := by decide +kernel
theorem dJ6_numberOfLeadingZeros_0f7a4_10 : decode cJ6_numberOfLeadingZeros_0f7a4 10 = .ok (.goto 4, 3) := by decide +kernel
theorem dJ6_numberOfLeadingZeros_0f7a4_13 : decode cJ6_numberOfLeadingZeros_0f7a4 13 = .ok (.iconst 0, 1) := by decide +kernel
theorem dJ6_numberOfLeadingZeros_0f7a4_14 : decode cJ6_numberOfLeadingZeros_0f7a4 14 = .ok (.ireturn, 1) := by decide +kernel
theorem dJ6_numberOfLeadingZeros_0f7a4_15 : decode cJ6_numberOfLeadingZeros_0f7a4 15 = .ok (.bipush 31, 2) := by decide +kernel
theorem dJ6_numberOfLeadingZeros_0f7a4_17 : decode cJ6_numberOfLeadingZeros_0f7a4 17 = .ok (.istore_n 1, 1) := by decide +kernel
theorem dJ6_numberOfLeadingZeros_0f7a4_18 : decode cJ6_numberOfLeadingZeros_0f7a4 18 = .ok (.iload_n 0, 1) := by decide +kernel
theorem dJ6_numberOfLeadingZeros_0f7a4_19 : decode cJ6_numberOfLeadingZeros_0f7a4 19 = .ok (.ldc_w 264, 3) := by decide +kernel
theorem dJ6_numberOfLeadingZeros_0f7a4_22 : decode cJ6_numberOfLeadingZeros_0f7a4 22 = .ok (.if_icmp .lt 11, 3) := by decide +kernel
theorem dJ6_numberOfLeadingZeros_0f7a4_25 : decode cJ6_numberOfLeadingZeros_0f7a4 25 = .ok (.iinc 1 (-16), 3) := by decide +kernel
theorem dJ6_numberOfLeadingZeros_0f7a4_28 : decode cJ6_numberOfLeadingZeros_0f7a4 28 = .ok (.iload_n 0, 1) := by decide +kernel
theorem dJ6_numberOfLeadingZeros_0f7a4_29 : decode cJ6_numberOfLeadingZeros_0f7a4 29 = .ok (.bipush 16, 2) := by decide +kernel
theorem dJ6_numberOfLeadingZeros_0f7a4_31 : decode cJ6_numberOfLeadingZeros_0f7a4 31 = .ok (.iushr, 1) := by decide +kernel
theorem dJ6_numberOfLeadingZeros_0f7a4_32 : decode cJ6_numberOfLeadingZeros_0f7a4 32 = .ok (.istore_n 0, 1) := by decide +kernel
theorem dJ6_numberOfLeadingZeros_0f7a4_33 : decode cJ6_numberOfLeadingZeros_0f7a4 33 = .ok (.iload_n 0, 1) := by decide +kernel
theorem dJ6_numberOfLeadingZeros_0f7a4_34 : decode cJ6_numberOfLeadingZeros_0f7a4 34 = .ok (.sipush 256, 3) := by decide +kernel
theorem dJ6_numberOfLeadingZeros_0f7a4_37 : decode cJ6_numberOfLeadingZeros_0f7a4 37 = .ok (.if_icmp .lt 11, 3) := by decide +kernel
theorem dJ6_numberOfLeadingZeros_0f7a4_40 : decode cJ6_numberOfLeadingZeros_0f7a4 40 = .ok (.iinc 1 (-8), 3) := by decide +kernel
theorem dJ6_numberOfLeadingZeros_0f7a4_43 : decode cJ6_numberOfLeadingZeros_0f7a4 43 = .ok (.iload_n 0, 1) := by decide +kernel
theorem dJ6_numberOfLeadingZeros_0f7a4_44 : decode cJ6_numberOfLeadingZeros_0f7a4 44 = .ok (.bipush 8, 2) := by decide +kernel
theorem dJ6_numberOfLeadingZeros_0f7a4_46 : decode cJ6_numberOfLeadingZeros_0f7a4 46 = .ok (.iushr, 1) := by decide +kernel
theorem dJ6_numberOfLeadingZeros_0f7a4_47 : decode cJ6_numberOfLeadingZeros_0f7a4 47 = .ok (.istore_n 0, 1) := by decide +kernel
theorem dJ6_numberOfLeadingZeros_0f7a4_48 : decode cJ6_numberOfLeadingZeros_0f7a4 48 = .ok (.iload_n 0, 1) := by decide +kernel
theorem dJ6_numberOfLeadingZeros_0f7a4_49 : decode cJ6_numberOfLeadingZeros_0f7a4 49 = .ok (.bipush 16, 2) := by decide +kernel
theorem dJ6_numberOfLeadingZeros_0f7a4_51 : decode cJ6_numberOfLeadingZeros_0f7a4 51 = .ok (.if_icmp .lt 10, 3) := by decide +kernel
theorem dJ6_numberOfLeadingZeros_0f7a4_54 : decode cJ6_numberOfLeadingZeros_0f7a4 54 = .ok (.iinc 1 (-4), 3) := by decide +kernel
theorem dJ6_numberOfLeadingZeros_0f7a4_57 : decode cJ6_numberOfLeadingZeros_0f7a4 57 = .ok (.iload_n 0, 1) := by decide +kernel
theorem dJ6_numberOfLeadingZeros_0f7a4_58 : decode cJ6_numberOfLeadingZeros_0f7a4 58 = .ok (.iconst 4, 1) := by decide +kernel
theorem dJ6_numberOfLeadingZeros_0f7a4_59 : decode cJ6_numberOfLeadingZeros_0f7a4 59 = .ok (.iushr, 1) := by decide +kernel
theorem dJ6_numberOfLeadingZeros_0f7a4_60 : decode cJ6_numberOfLeadingZeros_0f7a4 60 = .ok (.istore_n 0, 1) := by decide +kernel
theorem dJ6_numberOfLeadingZeros_0f7a4_61 : decode cJ6_numberOfLeadingZeros_0f7a4 61 = .ok (.iload_n 0, 1) := by decide +kernel
theorem dJ6_numberOfLeadingZeros_0f7a4_62 : decode cJ6_numberOfLeadingZeros_0f7a4 62 = .ok (.iconst 4, 1) := by decide +kernel
theorem dJ6_numberOfLeadingZeros_0f7a4_63 : decode cJ6_numberOfLeadingZeros_0f7a4 63 = .ok (.if_icmp .lt 10, 3) := by decide +kernel
theorem dJ6_numberOfLeadingZeros_0f7a4_66 : decode cJ6_numberOfLeadingZeros_0f7a4 66 = .ok (.iinc 1 (-2), 3) := by decide +kernel
theorem dJ6_numberOfLeadingZeros_0f7a4_69 : decode cJ6_numberOfLeadingZeros_0f7a4 69 = .ok (.iload_n 0, 1) := by decide +kernel
theorem dJ6_numberOfLeadingZeros_0f7a4_70 : decode cJ6_numberOfLeadingZeros_0f7a4 70 = .ok (.iconst 2, 1) := by decide +kernel
theorem dJ6_numberOfLeadingZeros_0f7a4_71 : decode cJ6_numberOfLeadingZeros_0f7a4 71 = .ok (.iushr, 1) := by decide +kernel
theorem dJ6_numberOfLeadingZeros_0f7a4_72 : decode cJ6_numberOfLeadingZeros_0f7a4 72 = .ok (.istore_n 0, 1) := by decide +kernel
theorem dJ6_numberOfLeadingZeros_0f7a4_73 : decode cJ6_numberOfLeadingZeros_0f7a4 73 = .ok (.iload_n 1, 1) := by decide +kernel
theorem dJ6_numberOfLeadingZeros_0f7a4_74 : decode cJ6_numberOfLeadingZeros_0f7a4 74 = .ok (.iload_n 0, 1) := by decide +kernel
theorem dJ6_numberOfLeadingZeros_0f7a4_75 : decode cJ6_numberOfLeadingZeros_0f7a4 75 = .ok (.iconst 1, 1) := by decide +kernel
theorem dJ6_numberOfLeadingZeros_0f7a4_76 : decode cJ6_numberOfLeadingZeros_0f7a4 76 = .ok (.iushr, 1) := by decide +kernel
theorem dJ6_numberOfLeadingZeros_0f7a4_77 : decode cJ6_numberOfLeadingZeros_0f7a4 77 = .ok (.isub, 1) := by decide +kernel
theorem dJ6_numberOfLeadingZeros_0f7a4_78 : decode cJ6_numberOfLeadingZeros_0f7a4 78 = .ok (.ireturn, 1) := by decide +kernel
theorem dJ6_numberOfTrailingZeros_0f7a4_0 : decode cJ6_numberOfTrailingZeros_0f7a4 0 = .ok (.iload_n 0, 1) := by decide +kernel
theorem dJ6_numberOfTrailingZeros_0f7a4_1 : decode cJ6_numberOfTrailingZeros_0f7a4 1 = .ok (.iconst (-1), 1) := by decide +kernel
theorem dJ6_numberOfTrailingZeros_0f7a4_2 : decode cJ6_numberOfTrailingZeros_0f7a4 2 = .ok (.ixor, 1) := by decide +kernel
theorem dJ6_numberOfTrailingZeros_0f7a4_3 : decode cJ6_numberOfTrailingZeros_0f7a4 3 = .ok (.iload_n 0, 1) := by decide +kernel
theorem dJ6_numberOfTrailingZeros_0f7a4_4 : decode cJ6_numberOfTrailingZeros_0f7a4 4 = .ok (.iconst 1, 1) := by decide +kernel
theorem dJ6_numberOfTrailingZeros_0f7a4_5 : decode cJ6_numberOfTrailingZeros_0f7a4 5 = .ok (.isub, 1) := by decide +kernel
theorem dJ6_numberOfTrailingZeros_0f7a4_6 : decode cJ6_numberOfTrailingZeros_0f7a4 6 = .ok (.iand, 1) := by decide +kernel
theorem dJ6_numberOfTrailingZeros_0f7a4_7 : decode cJ6_numberOfTrailingZeros_0f7a4 7 = .ok (.istore_n 0, 1) := by decide +kernel
theorem dJ6_numberOfTrailingZeros_0f7a4_8 : decode cJ6_numberOfTrailingZeros_0f7a4 8 = .ok (.iload_n 0, 1) := by decide +kernel
theorem dJ6_numberOfTrailingZeros_0f7a4_9 : decode cJ6_numberOfTrailingZeros_0f7a4 9 = .ok (.ifCond .gt 8, 3) := by decide +kernel
theorem dJ6_numberOfTrailingZeros_0f7a4_12 : decode cJ6_numberOfTrailingZeros_0f7a4 12 = .ok (.iload_n 0, 1) := by decide +kernel
theorem dJ6_numberOfTrailingZeros_0f7a4_13 : decode cJ6_numberOfTrailingZeros_0f7a4 13 = .ok (.bipush 32, 2) := by decide +kernel
theorem dJ6_numberOfTrailingZeros_0f7a4_15 : decode cJ6_numberOfTrailingZeros_0f7a4 15 = .ok (.iand, 1) := by decide +kernel
theorem dJ6_numberOfTrailingZeros_0f7a4_16 : decode cJ6_numberOfTrailingZeros_0f7a4 16 = .ok (.ireturn, 1) := by decide +kernel
theorem dJ6_numberOfTrailingZeros_0f7a4_17 : decode cJ6_numberOfTrailingZeros_0f7a4 17 = .ok (.iconst 1, 1) := by decide +kernel
theorem dJ6_numberOfTrailingZeros_0f7a4_18 : decode cJ6_numberOfTrailingZeros_0f7a4 18 = .ok (.istore_n 1, 1) := by decide +kernel
theorem dJ6_numberOfTrailingZeros_0f7a4_19 : decode cJ6_numberOfTrailingZeros_0f7a4 19 = .ok (.iload_n 0, 1) := by decide +kernel
theorem dJ6_numberOfTrailingZeros_0f7a4_20 : decode cJ6_numberOfTrailingZeros_0f7a4 20 = .ok (.ldc_w 264, 3) := by decide +kernel
theorem dJ6_numberOfTrailingZeros_0f7a4_23 : decode cJ6_numberOfTrailingZeros_0f7a4 23 = .ok (.if_icmp .le 11, 3) := by decide +kernel
theorem dJ6_numberOfTrailingZeros_0f7a4_26 : decode cJ6_numberOfTrailingZeros_0f7a4 26 = .ok (.iinc 1 16, 3) := by decide +kernel
theorem dJ6_numberOfTrailingZeros_0f7a4_29 : decode cJ6_numberOfTrailingZeros_0f7a4 29 = .ok (.iload_n 0, 1) := by decide +kernel
theorem dJ6_numberOfTrailingZeros_0f7a4_30 : decode cJ6_numberOfTrailingZeros_0f7a4 30 = .ok (.bipush 16, 2) := by decide +kernel
theorem dJ6_numberOfTrailingZeros_0f7a4_32 : decode cJ6_numberOfTrailingZeros_0f7a4 32 = .ok (.iushr, 1) := by decide +kernel
theorem dJ6_numberOfTrailingZeros_0f7a4_33 : decode cJ6_numberOfTrailingZeros_0f7a4 33 = .ok (.istore_n 0, 1) := by decide +kernel
theorem dJ6_numberOfTrailingZeros_0f7a4_34 : decode cJ6_numberOfTrailingZeros_0f7a4 34 = .ok (.iload_n 0, 1) := by decide +kernel
theorem dJ6_numberOfTrailingZeros_0f7a4_35 : decode cJ6_numberOfTrailingZeros_0f7a4 35 = .ok (.sipush 256, 3) := by decide +kernel
theorem dJ6_numberOfTrailingZeros_0f7a4_38 : decode cJ6_numberOfTrailingZeros_0f7a4 38 = .ok (.if_icmp .le 11, 3) := by decide +kernel
theorem dJ6_numberOfTrailingZeros_0f7a4_41 : decode cJ6_numberOfTrailingZeros_0f7a4 41 = .ok (.iinc 1 8, 3) := by decide +kernel
theorem dJ6_numberOfTrailingZeros_0f7a4_44 : decode cJ6_numberOfTrailingZeros_0f7a4 44 = .ok (.iload_n 0, 1) := by decide +kernel
theorem dJ6_numberOfTrailingZeros_0f7a4_45 : decode cJ6_numberOfTrailingZeros_0f7a4 45 = .ok (.bipush 8, 2) := by decide +kernel
theorem dJ6_numberOfTrailingZeros_0f7a4_47 : decode cJ6_numberOfTrailingZeros_0f7a4 47 = .ok (.iushr, 1) := by decide +kernel
theorem dJ6_numberOfTrailingZeros_0f7a4_48 : decode cJ6_numberOfTrailingZeros_0f7a4 48 = .ok (.istore_n 0, 1) := by decide +kernel
theorem dJ6_numberOfTrailingZeros_0f7a4_49 : decode cJ6_numberOfTrailingZeros_0f7a4 49 = .ok (.iload_n 0, 1) := by decide +kernel
theorem dJ6_numberOfTrailingZeros_0f7a4_50 : decode cJ6_numberOfTrailingZeros_0f7a4 50 = .ok (.bipush 16, 2) := by decide +kernel
theorem dJ6_numberOfTrailingZeros_0f7a4_52 : decode cJ6_numberOfTrailingZeros_0f7a4 52 = .ok (.if_icmp .le 10, 3) := by decide +kernel
theorem dJ6_numberOfTrailingZeros_0f7a4_55 : decode cJ6_numberOfTrailingZeros_0f7a4 55 = .ok (.iinc 1 4, 3) := by decide +kernel
theorem dJ6_numberOfTrailingZeros_0f7a4_58 : decode cJ6_numberOfTrailingZeros_0f7a4 58 = .ok (.iload_n 0, 1) := by decide +kernel
theorem dJ6_numberOfTrailingZeros_0f7a4_59 : decode cJ6_numberOfTrailingZeros_0f7a4 59 = .ok (.iconst 4, 1) := by decide +kernel
theorem dJ6_numberOfTrailingZeros_0f7a4_60 : decode cJ6_numberOfTrailingZeros_0f7a4 60 = .ok (.iushr, 1) := by decide +kernel
theorem dJ6_numberOfTrailingZeros_0f7a4_61 : decode cJ6_numberOfTrailingZeros_0f7a4 61 = .ok (.istore_n 0, 1) := by decide +kernel
theorem dJ6_numberOfTrailingZeros_0f7a4_62 : decode cJ6_numberOfTrailingZeros_0f7a4 62 = .ok (.iload_n 0, 1) := by decide +kernel
theorem dJ6_numberOfTrailingZeros_0f7a4_63 : decode cJ6_numberOfTrailingZeros_0f7a4 63 = .ok (.iconst 4, 1) := by decide +kernel
theorem dJ6_numberOfTrailingZeros_0f7a4_64 : decode cJ6_numberOfTrailingZeros_0f7a4 64 = .ok (.if_icmp .le 10, 3) := by decide +kernel
theorem dJ6_numberOfTrailingZeros_0f7a4_67 : decode cJ6_numberOfTrailingZeros_0f7a4 67 = .ok (.iinc 1 2, 3) := by decide +kernel
theorem dJ6_numberOfTrailingZeros_0f7a4_70 : decode cJ6_numberOfTrailingZeros_0f7a4 70 = .ok (.iload_n 0, 1) := by decide +kernel
theorem dJ6_numberOfTrailingZeros_0f7a4_71 : decode cJ6_numberOfTrailingZeros_0f7a4 71 = .ok (.iconst 2, 1) := by decide +kernel
theorem dJ6_numberOfTrailingZeros_0f7a4_72 : decode cJ6_numberOfTrailingZeros_0f7a4 72 = .ok (.iushr, 1) := by decide +kernel
theorem dJ6_numberOfTrailingZeros_0f7a4_73 : decode cJ6_numberOfTrailingZeros_0f7a4 73 = .ok (.istore_n 0, 1) := by decide +kernel
theorem dJ6_numberOfTrailingZeros_0f7a4_74 : decode cJ6_numberOfTrailingZeros_0f7a4 74 = .ok (.iload_n 1, 1) := by decide +kernel
theorem dJ6_numberOfTrailingZeros_0f7a4_75 : decode cJ6_numberOfTrailingZeros_0f7a4 75 = .ok (.iload_n 0, 1) := by decide +kernel
theorem dJ6_numberOfTrailingZeros_0f7a4_76 : decode cJ6_numberOfTrailingZeros_0f7a4 76 = .ok (.iconst 1, 1) := by decide +kernel
theorem dJ6_numberOfTrailingZeros_0f7a4_77 : decode cJ6_numberOfTrailingZeros_0f7a4 77 = .ok (.iushr, 1) := by decide +kernel
theorem dJ6_numberOfTrailingZeros_0f7a4_78 : decode cJ6_numberOfTrailingZeros_0f7a4 78 = .ok (.iadd, 1) := by decide +kernel
theorem dJ6_numberOfTrailingZeros_0f7a4_79 : decode cJ6_numberOfTrailingZeros_0f7a4 79 = .ok (.ireturn, 1) := by decide +kernel
theorem dJ6_bitCount_0f7a4_0 : decode cJ6_bitCount_0f7a4 0 = .ok (.iload_n 0, 1) := by decide +kernel
theorem dJ6_bitCount_0f7a4_1 : decode cJ6_bitCount_0f7a4 1 = .ok (.iload_n 0, 1) := by decide +kernel
theorem dJ6_bitCount_0f7a4_2 : decode cJ6_bitCount_0f7a4 2 = .ok (.iconst 1, 1) := by decide +kernel
theorem dJ6_bitCount_0f7a4_3 : decode cJ6_bitCount_0f7a4 3 = .ok (.iushr, 1) := by decide +kernel
theorem dJ6_bitCount_0f7a4_4 : decode cJ6_bitCount_0f7a4 4 = .ok (.ldc_w 265, 3) := by decide +kernel
theorem dJ6_bitCount_0f7a4_7 : decode cJ6_bitCount_0f7a4 7 = .ok (.iand, 1) := by decide +kernel
theorem dJ6_bitCount_0f7a4_8 : decode cJ6_bitCount_0f7a4 8 = .ok (.isub, 1) := by decide +kernel
theorem dJ6_bitCount_0f7a4_9 : decode cJ6_bitCount_0f7a4 9 = .ok (.istore_n 0, 1) := by decide +kernel
theorem dJ6_bitCount_0f7a4_10 : decode cJ6_bitCount_0f7a4 10 = .ok (.iload_n 0, 1) := by decide +kernel
theorem dJ6_bitCount_0f7a4_11 : decode cJ6_bitCount_0f7a4 11 = .ok (.ldc_w 266, 3) := by decide +kernel
theorem dJ6_bitCount_0f7a4_14 : decode cJ6_bitCount_0f7a4 14 = .ok (.iand, 1) := by decide +kernel
theorem dJ6_bitCount_0f7a4_15 : decode cJ6_bitCount_0f7a4 15 = .ok (.iload_n 0, 1) := by decide +kernel
theorem dJ6_bitCount_0f7a4_16 : decode cJ6_bitCount_0f7a4 16 = .ok (.iconst 2, 1) := by decide +kernel
theorem dJ6_bitCount_0f7a4_17 : decode cJ6_bitCount_0f7a4 17 = .ok (.iushr, 1) := by decide +kernel
theorem dJ6_bitCount_0f7a4_18 : decode cJ6_bitCount_0f7a4 18 = .ok (.ldc_w 266, 3) := by decide +kernel
theorem dJ6_bitCount_0f7a4_21 : decode cJ6_bitCount_0f7a4 21 = .ok (.iand, 1) := by decide +kernel
theorem dJ6_bitCount_0f7a4_22 : decode cJ6_bitCount_0f7a4 22 = .ok (.iadd, 1) := by decide +kernel
theorem dJ6_bitCount_0f7a4_23 : decode cJ6_bitCount_0f7a4 23 = .ok (.istore_n 0, 1) := by decide +kernel
theorem dJ6_bitCount_0f7a4_24 : decode cJ6_bitCount_0f7a4 24 = .ok (.iload_n 0, 1) := by decide +kernel
theorem dJ6_bitCount_0f7a4_25 : decode cJ6_bitCount_0f7a4 25 = .ok (.iload_n 0, 1) := by decide +kernel
theorem dJ6_bitCount_0f7a4_26 : decode cJ6_bitCount_0f7a4 26 = .ok (.iconst 4, 1) := by decide +kernel
theorem dJ6_bitCount_0f7a4_27 : decode cJ6_bitCount_0f7a4 27 = .ok (.iushr, 1) := by decide +kernel
theorem dJ6_bitCount_0f7a4_28 : decode cJ6_bitCount_0f7a4 28 = .ok (.iadd, 1) := by decide +kernel
theorem dJ6_bitCount_0f7a4_29 : decode cJ6_bitCount_0f7a4 29 = .ok (.ldc_w 267, 3) := by decide +kernel
theorem dJ6_bitCount_0f7a4_32 : decode cJ6_bitCount_0f7a4 32 = .ok (.iand, 1) := by decide +kernel
theorem dJ6_bitCount_0f7a4_33 : decode cJ6_bitCount_0f7a4 33 = .ok (.istore_n 0, 1) := by decide +kernel
theorem dJ6_bitCount_0f7a4_34 : decode cJ6_bitCount_0f7a4 34 = .ok (.iload_n 0, 1) := by decide +kernel
theorem dJ6_bitCount_0f7a4_35 : decode cJ6_bitCount_0f7a4 35 = .ok (.iload_n 0, 1) := by decide +kernel
theorem dJ6_bitCount_0f7a4_36 : decode cJ6_bitCount_0f7a4 36 = .ok (.bipush 8, 2) := by decide +kernel
theorem dJ6_bitCount_0f7a4_38 : decode cJ6_bitCount_0f7a4 38 = .ok (.iushr, 1) := by decide +kernel
theorem dJ6_bitCount_0f7a4_39 : decode cJ6_bitCount_0f7a4 39 = .ok (.iadd, 1) := by decide +kernel
theorem dJ6_bitCount_0f7a4_40 : decode cJ6_bitCount_0f7a4 40 = .ok (.istore_n 0, 1) := by decide +kernel
theorem dJ6_bitCount_0f7a4_41 : decode cJ6_bitCount_0f7a4 41 = .ok (.iload_n 0, 1) := by decide +kernel
theorem dJ6_bitCount_0f7a4_42 : decode cJ6_bitCount_0f7a4 42 = .ok (.iload_n 0, 1) := by decide +kernel
theorem dJ6_bitCount_0f7a4_43 : decode cJ6_bitCount_0f7a4 43 = .ok (.bipush 16, 2) := by decide +kernel
theorem dJ6_bitCount_0f7a4_45 : decode cJ6_bitCount_0f7a4 45 = .ok (.iushr, 1) := by decide +kernel
theorem dJ6_bitCount_0f7a4_46 : decode cJ6_bitCount_0f7a4 46 = .ok (.iadd, 1) := by decide +kernel
theorem dJ6_bitCount_0f7a4_47 : decode cJ6_bitCount_0f7a4 47 = .ok (.istore_n 0, 1) := by decide +kernel
theorem dJ6_bitCount_0f7a4_48 : decode cJ6_bitCount_0f7a4 48 = .ok (.iload_n 0, 1) := by decide +kernel
theorem dJ6_bitCount_0f7a4_49 : decode cJ6_bitCount_0f7a4 49 = .ok (.bipush 63, 2) := by decide +kernel
theorem dJ6_bitCount_0f7a4_51 : decode cJ6_bitCount_0f7a4 51 = .ok (.iand, 1) := by decide +kernel
theorem dJ6_bitCount_0f7a4_52 : decode cJ6_bitCount_0f7a4 52 = .ok (.ireturn, 1) := by decide +kernel
theorem dJ13_numberOfTrailingZeros_95d88_0 : decode cJ13_numberOfTrailingZeros_95d88 0 = .ok (.lload_n 0, 1) := by decide +kernel
theorem dJ13_numberOfTrailingZeros_95d88_1 : decode cJ13_numberOfTrailingZeros_95d88 1 = .ok (.l2i, 1) := by decide +kernel
theorem dJ13_numberOfTrailingZeros_95d88_2 : decode cJ13_numberOfTrailingZeros_95d88 2 = .ok (.istore_n 2, 1) := by decide +kernel
theorem dJ13_numberOfTrailingZeros_95d88_3 : decode cJ13_numberOfTrailingZeros_95d88 3 = .ok (.iload_n 2, 1) := by decide +kernel
theorem dJ13_numberOfTrailingZeros_95d88_4 : decode cJ13_numberOfTrailingZeros_95d88 4 = .ok (.ifCond .ne 17, 3) := by decide +kernel
theorem dJ13_numberOfTrailingZeros_95d88_7 : decode cJ13_numberOfTrailingZeros_95d88 7 = .ok (.bipush 32, 2) := by decide +kernel
theorem dJ13_numberOfTrailingZeros_95d88_9 : decode cJ13_numberOfTrailingZeros_95d88 9 = .ok (.lload_n 0, 1) := by decide +kernel
theorem dJ13_numberOfTrailingZeros_95d88_10 : decode cJ13_numberOfTrailingZeros_95d88 10 = .ok (.bipush 32, 2) := by decide +kernel
theorem dJ13_numberOfTrailingZeros_95d88_12 : decode cJ13_numberOfTrailingZeros_95d88 12 = .ok (.lushr, 1) := by decide +kernel
theorem dJ13_numberOfTrailingZeros_95d88_13 : decode cJ13_numberOfTrailingZeros_95d88 13 = .ok (.l2i, 1) := by decide +kernel
theorem dJ13_numberOfTrailingZeros_95d88_14 : decode cJ13_numberOfTrailingZeros_95d88 14 = .ok (.invokestatic 311, 3) := by decide +kernel
theorem dJ13_numberOfTrailingZeros_95d88_17 : decode cJ13_numberOfTrailingZeros_95d88 17 = .ok (.iadd, 1) := by decide +kernel
theorem dJ13_numberOfTrailingZeros_95d88_18 : decode cJ13_numberOfTrailingZeros_95d88 18 = .ok (.goto 7, 3) := by decide +kernel
theorem dJ13_numberOfTrailingZeros_95d88_21 : decode cJ13_numberOfTrailingZeros_95d88 21 = .ok (.iload_n 2, 1) := by decide +kernel
theorem dJ13_numberOfTrailingZeros_95d88_22 : decode cJ13_numberOfTrailingZeros_95d88 22 = .ok (.invokestatic 311, 3) := by decide +kernel
theorem dJ13_numberOfTrailingZeros_95d88_25 : decode cJ13_numberOfTrailingZeros_95d88 25 = .ok (.ireturn, 1) := by decide +kernel
theorem dJ9_abs_0f7a4_0 : decode cJ9_abs_0f7a4 0 = .ok (.iload_n 0, 1) := by decide +kernel
theorem dJ9_abs_0f7a4_1 : decode cJ9_abs_0f7a4 1 = .ok (.ifCond .ge 8, 3) := by decide +kernel
theorem dJ9_abs_0f7a4_4 : decode cJ9_abs_0f7a4 4 = .ok (.iload_n 0, 1) := by decide +kernel
theorem dJ9_abs_0f7a4_5 : decode cJ9_abs_0f7a4 5 = .ok (.ineg, 1) := by decide +kernel
theorem dJ9_abs_0f7a4_6 : decode cJ9_abs_0f7a4 6 = .ok (.goto 4, 3) := by decide +kernel
theorem dJ9_abs_0f7a4_9 : decode cJ9_abs_0f7a4 9 = .ok (.iload_n 0, 1) := by decide +kernel
theorem dJ9_abs_0f7a4_10 : decode cJ9_abs_0f7a4 10 = .ok (.ireturn, 1) := by decide +kernel
theorem dJ9_max_7cf53_0 : decode cJ9_max_7cf53 0 = .ok (.iload_n 0, 1) := by decide +kernel
theorem dJ9_max_7cf53_1 : decode cJ9_max_7cf53 1 = .ok (.iload_n 1, 1) := by decide +kernel
theorem dJ9_max_7cf53_2 : decode cJ9_max_7cf53 2 = .ok (.if_icmp .lt 7, 3) := by decide +kernel
theorem dJ9_max_7cf53_5 : decode cJ9_max_7cf53 5 = .ok (.iload_n 0, 1) := by decide +kernel
theorem dJ9_max_7cf53_6 : decode cJ9_max_7cf53 6 = .ok (.goto 4, 3) := by decide +kernel
theorem dJ9_max_7cf53_9 : decode cJ9_max_7cf53 9 = .ok (.iload_n 1, 1) := by decide +kernel
theorem dJ9_max_7cf53_10 : decode cJ9_max_7cf53 10 = .ok (.ireturn, 1) := by decide +kernel
theorem dJ9_min_7cf53_0 : decode cJ9_min_7cf53 0 = .ok (.iload_n 0, 1) := by decide +kernel
theorem dJ9_min_7cf53_1 : decode cJ9_min_7cf53 1 = .ok (.iload_n 1, 1) := by decide +kernel
theorem dJ9_min_7cf53_2 : decode cJ9_min_7cf53 2 = .ok (.if_icmp .gt 7, 3) := by decide +kernel
theorem dJ9_min_7cf53_5 : decode cJ9_min_7cf53 5 = .ok (.iload_n 0, 1) := by decide +kernel
theorem dJ9_min_7cf53_6 : decode cJ9_min_7cf53 6 = .ok (.goto 4, 3) := by decide +kernel
theorem dJ9_min_7cf53_9 : decode cJ9_min_7cf53 9 = .ok (.iload_n 1, 1) := by decide +kernel
theorem dJ9_min_7cf53_10 : decode cJ9_min_7cf53 10 = .ok (.ireturn, 1) := by decide +kernel
