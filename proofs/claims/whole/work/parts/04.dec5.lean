theorem dX9_best_43 : decode cX9_best 43 = .ok (.goto 4, 3) := by decide +kernel
theorem dX9_best_46 : decode cX9_best 46 = .ok (.iconst 0, 1) := by decide +kernel
theorem dX9_best_47 : decode cX9_best 47 = .ok (.iadd, 1) := by decide +kernel
theorem dX9_best_48 : decode cX9_best 48 = .ok (.istore_n 3, 1) := by decide +kernel
theorem dX9_best_49 : decode cX9_best 49 = .ok (.iinc 4 1, 3) := by decide +kernel
theorem dX9_best_52 : decode cX9_best 52 = .ok (.goto (-31), 3) := by decide +kernel
theorem dX9_best_55 : decode cX9_best 55 = .ok (.iload_n 1, 1) := by decide +kernel
theorem dX9_best_56 : decode cX9_best 56 = .ok (.ifCond .ne 7, 3) := by decide +kernel
theorem dX9_best_59 : decode cX9_best 59 = .ok (.iload_n 2, 1) := by decide +kernel
theorem dX9_best_60 : decode cX9_best 60 = .ok (.goto 37, 3) := by decide +kernel
theorem dX9_best_63 : decode cX9_best 63 = .ok (.iload_n 1, 1) := by decide +kernel
theorem dX9_best_64 : decode cX9_best 64 = .ok (.iconst 1, 1) := by decide +kernel
theorem dX9_best_65 : decode cX9_best 65 = .ok (.if_icmp .ne 7, 3) := by decide +kernel
theorem dX9_best_68 : decode cX9_best 68 = .ok (.iload_n 3, 1) := by decide +kernel
theorem dX9_best_69 : decode cX9_best 69 = .ok (.goto 28, 3) := by decide +kernel
theorem dX9_best_72 : decode cX9_best 72 = .ok (.iload_n 1, 1) := by decide +kernel
theorem dX9_best_73 : decode cX9_best 73 = .ok (.iconst 2, 1) := by decide +kernel
theorem dX9_best_74 : decode cX9_best 74 = .ok (.if_icmp .ne 10, 3) := by decide +kernel
theorem dX9_best_77 : decode cX9_best 77 = .ok (.aload_n 0, 1) := by decide +kernel
theorem dX9_best_78 : decode cX9_best 78 = .ok (.invokevirtual 173, 3) := by decide +kernel
theorem dX9_best_81 : decode cX9_best 81 = .ok (.goto 16, 3) := by decide +kernel
theorem dX9_best_84 : decode cX9_best 84 = .ok (.aload_n 0, 1) := by decide +kernel
theorem dX9_best_85 : decode cX9_best 85 = .ok (.invokevirtual 173, 3) := by decide +kernel
theorem dX9_best_88 : decode cX9_best 88 = .ok (.iload_n 2, 1) := by decide +kernel
theorem dX9_best_89 : decode cX9_best 89 = .ok (.if_icmp .ne 7, 3) := by decide +kernel
theorem dX9_best_92 : decode cX9_best 92 = .ok (.iconst 1, 1) := by decide +kernel
theorem dX9_best_93 : decode cX9_best 93 = .ok (.goto 4, 3) := by decide +kernel
theorem dX9_best_96 : decode cX9_best 96 = .ok (.iconst 0, 1) := by decide +kernel
theorem dX9_best_97 : decode cX9_best 97 = .ok (.ireturn, 1) := by decide +kernel
theorem dX9_remember_0 : decode cX9_remember 0 = .ok (.iconst 0, 1) := by decide +kernel
theorem dX9_remember_1 : decode cX9_remember 1 = .ok (.istore_n 1, 1) := by decide +kernel
theorem dX9_remember_2 : decode cX9_remember 2 = .ok (.iload_n 1, 1) := by decide +kernel
theorem dX9_remember_3 : decode cX9_remember 3 = .ok (.bipush 49, 2) := by decide +kernel
theorem dX9_remember_5 : decode cX9_remember 5 = .ok (.if_icmp .ge 29, 3) := by decide +kernel
theorem dX9_remember_8 : decode cX9_remember 8 = .ok (.aload_n 0, 1) := by decide +kernel
theorem dX9_remember_9 : decode cX9_remember 9 = .ok (.getfield 13, 3) := by decide +kernel
theorem dX9_remember_12 : decode cX9_remember 12 = .ok (.bipush 49, 2) := by decide +kernel
theorem dX9_remember_14 : decode cX9_remember 14 = .ok (.aload_n 0, 1) := by decide +kernel
theorem dX9_remember_15 : decode cX9_remember 15 = .ok (.getfield 176, 3) := by decide +kernel
theorem dX9_remember_18 : decode cX9_remember 18 = .ok (.imul, 1) := by decide +kernel
theorem dX9_remember_19 : decode cX9_remember 19 = .ok (.iload_n 1, 1) := by decide +kernel
theorem dX9_remember_20 : decode cX9_remember 20 = .ok (.iadd, 1) := by decide +kernel
theorem dX9_remember_21 : decode cX9_remember 21 = .ok (.aload_n 0, 1) := by decide +kernel
theorem dX9_remember_22 : decode cX9_remember 22 = .ok (.getfield 7, 3) := by decide +kernel
theorem dX9_remember_25 : decode cX9_remember 25 = .ok (.iload_n 1, 1) := by decide +kernel
theorem dX9_remember_26 : decode cX9_remember 26 = .ok (.iaload, 1) := by decide +kernel
theorem dX9_remember_27 : decode cX9_remember 27 = .ok (.iastore, 1) := by decide +kernel
theorem dX9_remember_28 : decode cX9_remember 28 = .ok (.iinc 1 1, 3) := by decide +kernel
theorem dX9_remember_31 : decode cX9_remember 31 = .ok (.goto (-29), 3) := by decide +kernel
theorem dX9_remember_34 : decode cX9_remember 34 = .ok (.aload_n 0, 1) := by decide +kernel
theorem dX9_remember_35 : decode cX9_remember 35 = .ok (.aload_n 0, 1) := by decide +kernel
theorem dX9_remember_36 : decode cX9_remember 36 = .ok (.getfield 176, 3) := by decide +kernel
theorem dX9_remember_39 : decode cX9_remember 39 = .ok (.iconst 1, 1) := by decide +kernel
theorem dX9_remember_40 : decode cX9_remember 40 = .ok (.iadd, 1) := by decide +kernel
theorem dX9_remember_41 : decode cX9_remember 41 = .ok (.bipush 10, 2) := by decide +kernel
theorem dX9_remember_43 : decode cX9_remember 43 = .ok (.irem, 1) := by decide +kernel
theorem dX9_remember_44 : decode cX9_remember 44 = .ok (.putfield 176, 3) := by decide +kernel
theorem dX9_remember_47 : decode cX9_remember 47 = .ok (.aload_n 0, 1) := by decide +kernel
theorem dX9_remember_48 : decode cX9_remember 48 = .ok (.dup, 1) := by decide +kernel
theorem dX9_remember_49 : decode cX9_remember 49 = .ok (.getfield 92, 3) := by decide +kernel
theorem dX9_remember_52 : decode cX9_remember 52 = .ok (.aload_n 0, 1) := by decide +kernel
theorem dX9_remember_53 : decode cX9_remember 53 = .ok (.getfield 92, 3) := by decide +kernel
theorem dX9_remember_56 : decode cX9_remember 56 = .ok (.bipush 10, 2) := by decide +kernel
theorem dX9_remember_58 : decode cX9_remember 58 = .ok (.if_icmp .ge 7, 3) := by decide +kernel
theorem dX9_remember_61 : decode cX9_remember 61 = .ok (.iconst 1, 1) := by decide +kernel
theorem dX9_remember_62 : decode cX9_remember 62 = .ok (.goto 4, 3) := by decide +kernel
theorem dX9_remember_65 : decode cX9_remember 65 = .ok (.iconst 0, 1) := by decide +kernel
theorem dX9_remember_66 : decode cX9_remember 66 = .ok (.iadd, 1) := by decide +kernel
theorem dX9_remember_67 : decode cX9_remember 67 = .ok (.putfield 92, 3) := by decide +kernel
theorem dX9_remember_70 : decode cX9_remember 70 = .ok (.return_, 1) := by decide +kernel
theorem dX9_becomes_0 : decode cX9_becomes 0 = .ok (.aload_n 0, 1) := by decide +kernel
theorem dX9_becomes_1 : decode cX9_becomes 1 = .ok (.getfield 7, 3) := by decide +kernel
theorem dX9_becomes_4 : decode cX9_becomes 4 = .ok (.iload_n 1, 1) := by decide +kernel
theorem dX9_becomes_5 : decode cX9_becomes 5 = .ok (.iaload, 1) := by decide +kernel
theorem dX9_becomes_6 : decode cX9_becomes 6 = .ok (.istore_n 3, 1) := by decide +kernel
theorem dX9_becomes_7 : decode cX9_becomes 7 = .ok (.iload_n 3, 1) := by decide +kernel
theorem dX9_becomes_8 : decode cX9_becomes 8 = .ok (.iload_n 2, 1) := by decide +kernel
theorem dX9_becomes_9 : decode cX9_becomes 9 = .ok (.if_icmp .ne 6, 3) := by decide +kernel
theorem dX9_becomes_12 : decode cX9_becomes 12 = .ok (.bipush (-2), 2) := by decide +kernel
theorem dX9_becomes_14 : decode cX9_becomes 14 = .ok (.ireturn, 1) := by decide +kernel
theorem dX9_becomes_15 : decode cX9_becomes 15 = .ok (.aload_n 0, 1) := by decide +kernel
theorem dX9_becomes_16 : decode cX9_becomes 16 = .ok (.invokevirtual 179, 3) := by decide +kernel
theorem dX9_becomes_19 : decode cX9_becomes 19 = .ok (.aload_n 0, 1) := by decide +kernel
theorem dX9_becomes_20 : decode cX9_becomes 20 = .ok (.getfield 7, 3) := by decide +kernel
theorem dX9_becomes_23 : decode cX9_becomes 23 = .ok (.iload_n 1, 1) := by decide +kernel
theorem dX9_becomes_24 : decode cX9_becomes 24 = .ok (.iload_n 2, 1) := by decide +kernel
theorem dX9_becomes_25 : decode cX9_becomes 25 = .ok (.iastore, 1) := by decide +kernel
theorem dX9_becomes_26 : decode cX9_becomes 26 = .ok (.iload_n 3, 1) := by decide +kernel
theorem dX9_becomes_27 : decode cX9_becomes 27 = .ok (.ireturn, 1) := by decide +kernel
theorem dX9_reads_0 : decode cX9_reads 0 = .ok (.aload_n 0, 1) := by decide +kernel
theorem dX9_reads_1 : decode cX9_reads 1 = .ok (.iload_n 1, 1) := by decide +kernel
theorem dX9_reads_2 : decode cX9_reads 2 = .ok (.invokevirtual 98, 3) := by decide +kernel
theorem dX9_reads_5 : decode cX9_reads 5 = .ok (.ifCond .eq 34, 3) := by decide +kernel
theorem dX9_reads_8 : decode cX9_reads 8 = .ok (.aload_n 0, 1) := by decide +kernel
theorem dX9_reads_9 : decode cX9_reads 9 = .ok (.iload_n 2, 1) := by decide +kernel
theorem dX9_reads_10 : decode cX9_reads 10 = .ok (.invokevirtual 102, 3) := by decide +kernel
theorem dX9_reads_13 : decode cX9_reads 13 = .ok (.ifCond .eq 26, 3) := by decide +kernel
theorem dX9_reads_16 : decode cX9_reads 16 = .ok (.iload_n 3, 1) := by decide +kernel
theorem dX9_reads_17 : decode cX9_reads 17 = .ok (.iconst 0, 1) := by decide +kernel
theorem dX9_reads_18 : decode cX9_reads 18 = .ok (.iconst 4, 1) := by decide +kernel
theorem dX9_reads_19 : decode cX9_reads 19 = .ok (.invokestatic 50, 3) := by decide +kernel
theorem dX9_reads_22 : decode cX9_reads 22 = .ok (.ifCond .eq 17, 3) := by decide +kernel
theorem dX9_reads_25 : decode cX9_reads 25 = .ok (.aload_n 0, 1) := by decide +kernel
theorem dX9_reads_26 : decode cX9_reads 26 = .ok (.bipush 8, 2) := by decide +kernel
theorem dX9_reads_28 : decode cX9_reads 28 = .ok (.iload_n 1, 1) := by decide +kernel
theorem dX9_reads_29 : decode cX9_reads 29 = .ok (.imul, 1) := by decide +kernel
theorem dX9_reads_30 : decode cX9_reads 30 = .ok (.iload_n 2, 1) := by decide +kernel
theorem dX9_reads_31 : decode cX9_reads 31 = .ok (.iadd, 1) := by decide +kernel
theorem dX9_reads_32 : decode cX9_reads 32 = .ok (.iload_n 3, 1) := by decide +kernel
theorem dX9_reads_33 : decode cX9_reads 33 = .ok (.invokevirtual 182, 3) := by decide +kernel
theorem dX9_reads_36 : decode cX9_reads 36 = .ok (.goto 4, 3) := by decide +kernel
theorem dX9_reads_39 : decode cX9_reads 39 = .ok (.iconst (-1), 1) := by decide +kernel
theorem dX9_reads_40 : decode cX9_reads 40 = .ok (.ireturn, 1) := by decide +kernel
theorem dX9_chooses_0 : decode cX9_chooses 0 = .ok (.aload_n 0, 1) := by decide +kernel
theorem dX9_chooses_1 : decode cX9_chooses 1 = .ok (.iload_n 1, 1) := by decide +kernel
theorem dX9_chooses_2 : decode cX9_chooses 2 = .ok (.invokevirtual 154, 3) := by decide +kernel
theorem dX9_chooses_5 : decode cX9_chooses 5 = .ok (.ifCond .eq 13, 3) := by decide +kernel
theorem dX9_chooses_8 : decode cX9_chooses 8 = .ok (.aload_n 0, 1) := by decide +kernel
theorem dX9_chooses_9 : decode cX9_chooses 9 = .ok (.bipush 48, 2) := by decide +kernel
theorem dX9_chooses_11 : decode cX9_chooses 11 = .ok (.iload_n 1, 1) := by decide +kernel
theorem dX9_chooses_12 : decode cX9_chooses 12 = .ok (.invokevirtual 182, 3) := by decide +kernel
theorem dX9_chooses_15 : decode cX9_chooses 15 = .ok (.goto 4, 3) := by decide +kernel
theorem dX9_chooses_18 : decode cX9_chooses 18 = .ok (.iconst (-1), 1) := by decide +kernel
theorem dX9_chooses_19 : decode cX9_chooses 19 = .ok (.ireturn, 1) := by decide +kernel
theorem dX9_isNear_0 : decode cX9_isNear 0 = .ok (.iconst 0, 1) := by decide +kernel
theorem dX9_isNear_1 : decode cX9_isNear 1 = .ok (.istore_n 2, 1) := by decide +kernel
theorem dX9_isNear_2 : decode cX9_isNear 2 = .ok (.iconst 3, 1) := by decide +kernel
theorem dX9_isNear_3 : decode cX9_isNear 3 = .ok (.istore_n 3, 1) := by decide +kernel
theorem dX9_isNear_4 : decode cX9_isNear 4 = .ok (.iload_n 3, 1) := by decide +kernel
theorem dX9_isNear_5 : decode cX9_isNear 5 = .ok (.bipush 6, 2) := by decide +kernel
theorem dX9_isNear_7 : decode cX9_isNear 7 = .ok (.if_icmp .ge 30, 3) := by decide +kernel
theorem dX9_isNear_10 : decode cX9_isNear 10 = .ok (.iload_n 2, 1) := by decide +kernel
theorem dX9_isNear_11 : decode cX9_isNear 11 = .ok (.iload_n 0, 1) := by decide +kernel
theorem dX9_isNear_12 : decode cX9_isNear 12 = .ok (.iload_n 3, 1) := by decide +kernel
theorem dX9_isNear_13 : decode cX9_isNear 13 = .ok (.invokestatic 119, 3) := by decide +kernel
theorem dX9_isNear_16 : decode cX9_isNear 16 = .ok (.iload_n 1, 1) := by decide +kernel
theorem dX9_isNear_17 : decode cX9_isNear 17 = .ok (.iload_n 3, 1) := by decide +kernel
theorem dX9_isNear_18 : decode cX9_isNear 18 = .ok (.invokestatic 119, 3) := by decide +kernel
theorem dX9_isNear_21 : decode cX9_isNear 21 = .ok (.if_icmp .eq 7, 3) := by decide +kernel
theorem dX9_isNear_24 : decode cX9_isNear 24 = .ok (.iconst 1, 1) := by decide +kernel
theorem dX9_isNear_25 : decode cX9_isNear 25 = .ok (.goto 4, 3) := by decide +kernel
theorem dX9_isNear_28 : decode cX9_isNear 28 = .ok (.iconst 0, 1) := by decide +kernel
theorem dX9_isNear_29 : decode cX9_isNear 29 = .ok (.iadd, 1) := by decide +kernel
theorem dX9_isNear_30 : decode cX9_isNear 30 = .ok (.istore_n 2, 1) := by decide +kernel
theorem dX9_isNear_31 : decode cX9_isNear 31 = .ok (.iinc 3 1, 3) := by decide +kernel
theorem dX9_isNear_34 : decode cX9_isNear 34 = .ok (.goto (-30), 3) := by decide +kernel
theorem dX9_isNear_37 : decode cX9_isNear 37 = .ok (.iload_n 2, 1) := by decide +kernel
theorem dX9_isNear_38 : decode cX9_isNear 38 = .ok (.iconst 2, 1) := by decide +kernel
theorem dX9_isNear_39 : decode cX9_isNear 39 = .ok (.if_icmp .ge 7, 3) := by decide +kernel
theorem dX9_isNear_42 : decode cX9_isNear 42 = .ok (.iconst 1, 1) := by decide +kernel
theorem dX9_isNear_43 : decode cX9_isNear 43 = .ok (.goto 4, 3) := by decide +kernel
theorem dX9_isNear_46 : decode cX9_isNear 46 = .ok (.iconst 0, 1) := by decide +kernel
theorem dX9_isNear_47 : decode cX9_isNear 47 = .ok (.ireturn, 1) := by decide +kernel
theorem dX9_betters_0 : decode cX9_betters 0 = .ok (.aload_n 0, 1) := by decide +kernel
theorem dX9_betters_1 : decode cX9_betters 1 = .ok (.getfield 7, 3) := by decide +kernel
theorem dX9_betters_4 : decode cX9_betters 4 = .ok (.bipush 48, 2) := by decide +kernel
theorem dX9_betters_6 : decode cX9_betters 6 = .ok (.iaload, 1) := by decide +kernel
theorem dX9_betters_7 : decode cX9_betters 7 = .ok (.istore_n 1, 1) := by decide +kernel
theorem dX9_betters_8 : decode cX9_betters 8 = .ok (.aload_n 0, 1) := by decide +kernel
theorem dX9_betters_9 : decode cX9_betters 9 = .ok (.iload_n 1, 1) := by decide +kernel
theorem dX9_betters_10 : decode cX9_betters 10 = .ok (.invokevirtual 157, 3) := by decide +kernel
theorem dX9_betters_13 : decode cX9_betters 13 = .ok (.istore_n 2, 1) := by decide +kernel
theorem dX9_betters_14 : decode cX9_betters 14 = .ok (.iconst 0, 1) := by decide +kernel
theorem dX9_betters_15 : decode cX9_betters 15 = .ok (.istore_n 3, 1) := by decide +kernel
theorem dX9_betters_16 : decode cX9_betters 16 = .ok (.iload_n 3, 1) := by decide +kernel
theorem dX9_betters_17 : decode cX9_betters 17 = .ok (.aload_n 0, 1) := by decide +kernel
theorem dX9_betters_18 : decode cX9_betters 18 = .ok (.invokevirtual 150, 3) := by decide +kernel
theorem dX9_betters_21 : decode cX9_betters 21 = .ok (.if_icmp .ge 61, 3) := by decide +kernel
theorem dX9_betters_24 : decode cX9_betters 24 = .ok (.iload_n 3, 1) := by decide +kernel
theorem dX9_betters_25 : decode cX9_betters 25 = .ok (.aload_n 0, 1) := by decide +kernel
theorem dX9_betters_26 : decode cX9_betters 26 = .ok (.getfield 7, 3) := by decide +kernel
theorem dX9_betters_29 : decode cX9_betters 29 = .ok (.bipush 48, 2) := by decide +kernel
theorem dX9_betters_31 : decode cX9_betters 31 = .ok (.iaload, 1) := by decide +kernel
theorem dX9_betters_32 : decode cX9_betters 32 = .ok (.invokestatic 185, 3) := by decide +kernel
theorem dX9_betters_35 : decode cX9_betters 35 = .ok (.ifCond .eq 11, 3) := by decide +kernel
theorem dX9_betters_38 : decode cX9_betters 38 = .ok (.aload_n 0, 1) := by decide +kernel
theorem dX9_betters_39 : decode cX9_betters 39 = .ok (.iload_n 3, 1) := by decide +kernel
theorem dX9_betters_40 : decode cX9_betters 40 = .ok (.invokevirtual 157, 3) := by decide +kernel
theorem dX9_betters_43 : decode cX9_betters 43 = .ok (.goto 6, 3) := by decide +kernel
theorem dX9_betters_46 : decode cX9_betters 46 = .ok (.sipush 9999, 3) := by decide +kernel
theorem dX9_betters_49 : decode cX9_betters 49 = .ok (.istore 4, 2) := by decide +kernel
theorem dX9_betters_51 : decode cX9_betters 51 = .ok (.iload 4, 2) := by decide +kernel
theorem dX9_betters_53 : decode cX9_betters 53 = .ok (.iload_n 2, 1) := by decide +kernel
theorem dX9_betters_54 : decode cX9_betters 54 = .ok (.if_icmp .ge 7, 3) := by decide +kernel
theorem dX9_betters_57 : decode cX9_betters 57 = .ok (.iload_n 3, 1) := by decide +kernel
theorem dX9_betters_58 : decode cX9_betters 58 = .ok (.goto 4, 3) := by decide +kernel
theorem dX9_betters_61 : decode cX9_betters 61 = .ok (.iload_n 1, 1) := by decide +kernel
theorem dX9_betters_62 : decode cX9_betters 62 = .ok (.istore_n 1, 1) := by decide +kernel
theorem dX9_betters_63 : decode cX9_betters 63 = .ok (.iload 4, 2) := by decide +kernel
theorem dX9_betters_65 : decode cX9_betters 65 = .ok (.iload_n 2, 1) := by decide +kernel
theorem dX9_betters_66 : decode cX9_betters 66 = .ok (.if_icmp .ge 8, 3) := by decide +kernel
theorem dX9_betters_69 : decode cX9_betters 69 = .ok (.iload 4, 2) := by decide +kernel
theorem dX9_betters_71 : decode cX9_betters 71 = .ok (.goto 4, 3) := by decide +kernel
theorem dX9_betters_74 : decode cX9_betters 74 = .ok (.iload_n 2, 1) := by decide +kernel
theorem dX9_betters_75 : decode cX9_betters 75 = .ok (.istore_n 2, 1) := by decide +kernel
theorem dX9_betters_76 : decode cX9_betters 76 = .ok (.iinc 3 1, 3) := by decide +kernel
theorem dX9_betters_79 : decode cX9_betters 79 = .ok (.goto (-63), 3) := by decide +kernel
theorem dX9_betters_82 : decode cX9_betters 82 = .ok (.iload_n 1, 1) := by decide +kernel
theorem dX9_betters_83 : decode cX9_betters 83 = .ok (.aload_n 0, 1) := by decide +kernel
theorem dX9_betters_84 : decode cX9_betters 84 = .ok (.getfield 7, 3) := by decide +kernel
theorem dX9_betters_87 : decode cX9_betters 87 = .ok (.bipush 48, 2) := by decide +kernel
theorem dX9_betters_89 : decode cX9_betters 89 = .ok (.iaload, 1) := by decide +kernel
theorem dX9_betters_90 : decode cX9_betters 90 = .ok (.if_icmp .ne 6, 3) := by decide +kernel
theorem dX9_betters_93 : decode cX9_betters 93 = .ok (.bipush (-2), 2) := by decide +kernel
theorem dX9_betters_95 : decode cX9_betters 95 = .ok (.ireturn, 1) := by decide +kernel
theorem dX9_betters_96 : decode cX9_betters 96 = .ok (.aload_n 0, 1) := by decide +kernel
theorem dX9_betters_97 : decode cX9_betters 97 = .ok (.invokevirtual 179, 3) := by decide +kernel
theorem dX9_betters_100 : decode cX9_betters 100 = .ok (.aload_n 0, 1) := by decide +kernel
theorem dX9_betters_101 : decode cX9_betters 101 = .ok (.getfield 7, 3) := by decide +kernel
theorem dX9_betters_104 : decode cX9_betters 104 = .ok (.bipush 48, 2) := by decide +kernel
theorem dX9_betters_106 : decode cX9_betters 106 = .ok (.iload_n 1, 1) := by decide +kernel
theorem dX9_betters_107 : decode cX9_betters 107 = .ok (.iastore, 1) := by decide +kernel
theorem dX9_betters_108 : decode cX9_betters 108 = .ok (.iload_n 1, 1) := by decide +kernel
theorem dX9_betters_109 : decode cX9_betters 109 = .ok (.ireturn, 1) := by decide +kernel
theorem dX9_undo_0 : decode cX9_undo 0 = .ok (.aload_n 0, 1) := by decide +kernel
theorem dX9_undo_1 : decode cX9_undo 1 = .ok (.getfield 92, 3) := by decide +kernel
theorem dX9_undo_4 : decode cX9_undo 4 = .ok (.ifCond .ne 6, 3) := by decide +kernel
theorem dX9_undo_7 : decode cX9_undo 7 = .ok (.bipush (-2), 2) := by decide +kernel
theorem dX9_undo_9 : decode cX9_undo 9 = .ok (.ireturn, 1) := by decide +kernel
theorem dX9_undo_10 : decode cX9_undo 10 = .ok (.aload_n 0, 1) := by decide +kernel
theorem dX9_undo_11 : decode cX9_undo 11 = .ok (.aload_n 0, 1) := by decide +kernel
theorem dX9_undo_12 : decode cX9_undo 12 = .ok (.getfield 176, 3) := by decide +kernel
theorem dX9_undo_15 : decode cX9_undo 15 = .ok (.bipush 10, 2) := by decide +kernel
theorem dX9_undo_17 : decode cX9_undo 17 = .ok (.iadd, 1) := by decide +kernel
theorem dX9_undo_18 : decode cX9_undo 18 = .ok (.iconst 1, 1) := by decide +kernel
theorem dX9_undo_19 : decode cX9_undo 19 = .ok (.isub, 1) := by decide +kernel
theorem dX9_undo_20 : decode cX9_undo 20 = .ok (.bipush 10, 2) := by decide +kernel
theorem dX9_undo_22 : decode cX9_undo 22 = .ok (.irem, 1) := by decide +kernel
theorem dX9_undo_23 : decode cX9_undo 23 = .ok (.putfield 176, 3) := by decide +kernel
theorem dX9_undo_26 : decode cX9_undo 26 = .ok (.aload_n 0, 1) := by decide +kernel
theorem dX9_undo_27 : decode cX9_undo 27 = .ok (.dup, 1) := by decide +kernel
theorem dX9_undo_28 : decode cX9_undo 28 = .ok (.getfield 92, 3) := by decide +kernel
theorem dX9_undo_31 : decode cX9_undo 31 = .ok (.iconst 1, 1) := by decide +kernel
theorem dX9_undo_32 : decode cX9_undo 32 = .ok (.isub, 1) := by decide +kernel
theorem dX9_undo_33 : decode cX9_undo 33 = .ok (.putfield 92, 3) := by decide +kernel
theorem dX9_undo_36 : decode cX9_undo 36 = .ok (.iconst 0, 1) := by decide +kernel
theorem dX9_undo_37 : decode cX9_undo 37 = .ok (.istore_n 1, 1) := by decide +kernel
theorem dX9_undo_38 : decode cX9_undo 38 = .ok (.iload_n 1, 1) := by decide +kernel
theorem dX9_undo_39 : decode cX9_undo 39 = .ok (.bipush 49, 2) := by decide +kernel
theorem dX9_undo_41 : decode cX9_undo 41 = .ok (.if_icmp .ge 29, 3) := by decide +kernel
theorem dX9_undo_44 : decode cX9_undo 44 = .ok (.aload_n 0, 1) := by decide +kernel
theorem dX9_undo_45 : decode cX9_undo 45 = .ok (.getfield 7, 3) := by decide +kernel
theorem dX9_undo_48 : decode cX9_undo 48 = .ok (.iload_n 1, 1) := by decide +kernel
theorem dX9_undo_49 : decode cX9_undo 49 = .ok (.aload_n 0, 1) := by decide +kernel
theorem dX9_undo_50 : decode cX9_undo 50 = .ok (.getfield 13, 3) := by decide +kernel
theorem dX9_undo_53 : decode cX9_undo 53 = .ok (.bipush 49, 2) := by decide +kernel
theorem dX9_undo_55 : decode cX9_undo 55 = .ok (.aload_n 0, 1) := by decide +kernel
theorem dX9_undo_56 : decode cX9_undo 56 = .ok (.getfield 176, 3) := by decide +kernel
theorem dX9_undo_59 : decode cX9_undo 59 = .ok (.imul, 1) := by decide +kernel
theorem dX9_undo_60 : decode cX9_undo 60 = .ok (.iload_n 1, 1) := by decide +kernel
theorem dX9_undo_61 : decode cX9_undo 61 = .ok (.iadd, 1) := by decide +kernel
theorem dX9_undo_62 : decode cX9_undo 62 = .ok (.iaload, 1) := by decide +kernel
theorem dX9_undo_63 : decode cX9_undo 63 = .ok (.iastore, 1) := by decide +kernel
theorem dX9_undo_64 : decode cX9_undo 64 = .ok (.iinc 1 1, 3) := by decide +kernel
theorem dX9_undo_67 : decode cX9_undo 67 = .ok (.goto (-29), 3) := by decide +kernel
theorem dX9_undo_70 : decode cX9_undo 70 = .ok (.aload_n 0, 1) := by decide +kernel
theorem dX9_undo_71 : decode cX9_undo 71 = .ok (.getfield 92, 3) := by decide +kernel
theorem dX9_undo_74 : decode cX9_undo 74 = .ok (.ireturn, 1) := by decide +kernel
theorem dX9_fitting_0 : decode cX9_fitting 0 = .ok (.aload_n 0, 1) := by decide +kernel
theorem dX9_fitting_1 : decode cX9_fitting 1 = .ok (.iload_n 1, 1) := by decide +kernel
theorem dX9_fitting_2 : decode cX9_fitting 2 = .ok (.invokevirtual 98, 3) := by decide +kernel
theorem dX9_fitting_5 : decode cX9_fitting 5 = .ok (.ifCond .eq 11, 3) := by decide +kernel
theorem dX9_fitting_8 : decode cX9_fitting 8 = .ok (.aload_n 0, 1) := by decide +kernel
theorem dX9_fitting_9 : decode cX9_fitting 9 = .ok (.iload_n 2, 1) := by decide +kernel
theorem dX9_fitting_10 : decode cX9_fitting 10 = .ok (.invokevirtual 102, 3) := by decide +kernel
theorem dX9_fitting_13 : decode cX9_fitting 13 = .ok (.ifCond .ne 5, 3) := by decide +kernel
theorem dX9_fitting_16 : decode cX9_fitting 16 = .ok (.iconst (-1), 1) := by decide +kernel
theorem dX9_fitting_17 : decode cX9_fitting 17 = .ok (.ireturn, 1) := by decide +kernel
theorem dX9_fitting_18 : decode cX9_fitting 18 = .ok (.bipush 8, 2) := by decide +kernel
theorem dX9_fitting_20 : decode cX9_fitting 20 = .ok (.iload_n 1, 1) := by decide +kernel
theorem dX9_fitting_21 : decode cX9_fitting 21 = .ok (.imul, 1) := by decide +kernel
theorem dX9_fitting_22 : decode cX9_fitting 22 = .ok (.iload_n 2, 1) := by decide +kernel
theorem dX9_fitting_23 : decode cX9_fitting 23 = .ok (.iadd, 1) := by decide +kernel
theorem dX9_fitting_24 : decode cX9_fitting 24 = .ok (.istore_n 3, 1) := by decide +kernel
theorem dX9_fitting_25 : decode cX9_fitting 25 = .ok (.aload_n 0, 1) := by decide +kernel
theorem dX9_fitting_26 : decode cX9_fitting 26 = .ok (.getfield 7, 3) := by decide +kernel
theorem dX9_fitting_29 : decode cX9_fitting 29 = .ok (.iload_n 3, 1) := by decide +kernel
theorem dX9_fitting_30 : decode cX9_fitting 30 = .ok (.iaload, 1) := by decide +kernel
theorem dX9_fitting_31 : decode cX9_fitting 31 = .ok (.iconst 4, 1) := by decide +kernel
theorem dX9_fitting_32 : decode cX9_fitting 32 = .ok (.if_icmp .eq 6, 3) := by decide +kernel
theorem dX9_fitting_35 : decode cX9_fitting 35 = .ok (.bipush (-9), 2) := by decide +kernel
theorem dX9_fitting_37 : decode cX9_fitting 37 = .ok (.ireturn, 1) := by decide +kernel
theorem dX9_fitting_38 : decode cX9_fitting 38 = .ok (.aload_n 0, 1) := by decide +kernel
theorem dX9_fitting_39 : decode cX9_fitting 39 = .ok (.aload_n 0, 1) := by decide +kernel
theorem dX9_fitting_40 : decode cX9_fitting 40 = .ok (.getfield 7, 3) := by decide +kernel
theorem dX9_fitting_43 : decode cX9_fitting 43 = .ok (.bipush 48, 2) := by decide +kernel
theorem dX9_fitting_45 : decode cX9_fitting 45 = .ok (.iaload, 1) := by decide +kernel
theorem dX9_fitting_46 : decode cX9_fitting 46 = .ok (.invokevirtual 144, 3) := by decide +kernel
theorem dX9_fitting_49 : decode cX9_fitting 49 = .ok (.aload_n 0, 1) := by decide +kernel
theorem dX9_fitting_50 : decode cX9_fitting 50 = .ok (.iload_n 2, 1) := by decide +kernel
theorem dX9_fitting_51 : decode cX9_fitting 51 = .ok (.invokevirtual 147, 3) := by decide +kernel
theorem dX9_fitting_54 : decode cX9_fitting 54 = .ok (.istore 4, 2) := by decide +kernel
theorem dX9_fitting_56 : decode cX9_fitting 56 = .ok (.iconst 0, 1) := by decide +kernel
theorem dX9_fitting_57 : decode cX9_fitting 57 = .ok (.istore 5, 2) := by decide +kernel
theorem dX9_fitting_59 : decode cX9_fitting 59 = .ok (.iconst 0, 1) := by decide +kernel
theorem dX9_fitting_60 : decode cX9_fitting 60 = .ok (.istore 6, 2) := by decide +kernel
theorem dX9_fitting_62 : decode cX9_fitting 62 = .ok (.iload 6, 2) := by decide +kernel
theorem dX9_fitting_64 : decode cX9_fitting 64 = .ok (.iconst 4, 1) := by decide +kernel
theorem dX9_fitting_65 : decode cX9_fitting 65 = .ok (.if_icmp .ge 40, 3) := by decide +kernel
theorem dX9_fitting_68 : decode cX9_fitting 68 = .ok (.aload_n 0, 1) := by decide +kernel
theorem dX9_fitting_69 : decode cX9_fitting 69 = .ok (.getfield 7, 3) := by decide +kernel
theorem dX9_fitting_72 : decode cX9_fitting 72 = .ok (.iload_n 3, 1) := by decide +kernel
theorem dX9_fitting_73 : decode cX9_fitting 73 = .ok (.iload 6, 2) := by decide +kernel
theorem dX9_fitting_75 : decode cX9_fitting 75 = .ok (.iastore, 1) := by decide +kernel
theorem dX9_fitting_76 : decode cX9_fitting 76 = .ok (.iload 5, 2) := by decide +kernel
theorem dX9_fitting_78 : decode cX9_fitting 78 = .ok (.aload_n 0, 1) := by decide +kernel
theorem dX9_fitting_79 : decode cX9_fitting 79 = .ok (.iload_n 2, 1) := by decide +kernel
theorem dX9_fitting_80 : decode cX9_fitting 80 = .ok (.invokevirtual 147, 3) := by decide +kernel
theorem dX9_fitting_83 : decode cX9_fitting 83 = .ok (.iload 4, 2) := by decide +kernel
theorem dX9_fitting_85 : decode cX9_fitting 85 = .ok (.if_icmp .ne 10, 3) := by decide +kernel
theorem dX9_fitting_88 : decode cX9_fitting 88 = .ok (.iconst 1, 1) := by decide +kernel
theorem dX9_fitting_89 : decode cX9_fitting 89 = .ok (.iload 6, 2) := by decide +kernel
theorem dX9_fitting_91 : decode cX9_fitting 91 = .ok (.ishl, 1) := by decide +kernel
theorem dX9_fitting_92 : decode cX9_fitting 92 = .ok (.goto 4, 3) := by decide +kernel
theorem dX9_fitting_95 : decode cX9_fitting 95 = .ok (.iconst 0, 1) := by decide +kernel
theorem dX9_fitting_96 : decode cX9_fitting 96 = .ok (.ior, 1) := by decide +kernel
theorem dX9_fitting_97 : decode cX9_fitting 97 = .ok (.istore 5, 2) := by decide +kernel
theorem dX9_fitting_99 : decode cX9_fitting 99 = .ok (.iinc 6 1, 3) := by decide +kernel
theorem dX9_fitting_102 : decode cX9_fitting 102 = .ok (.goto (-40), 3) := by decide +kernel
theorem dX9_fitting_105 : decode cX9_fitting 105 = .ok (.aload_n 0, 1) := by decide +kernel
theorem dX9_fitting_106 : decode cX9_fitting 106 = .ok (.getfield 7, 3) := by decide +kernel
theorem dX9_fitting_109 : decode cX9_fitting 109 = .ok (.iload_n 3, 1) := by decide +kernel
theorem dX9_fitting_110 : decode cX9_fitting 110 = .ok (.iconst 4, 1) := by decide +kernel
theorem dX9_fitting_111 : decode cX9_fitting 111 = .ok (.iastore, 1) := by decide +kernel
theorem dX9_fitting_112 : decode cX9_fitting 112 = .ok (.iload 5, 2) := by decide +kernel
theorem dX9_fitting_114 : decode cX9_fitting 114 = .ok (.ireturn, 1) := by decide +kernel
theorem dX9_isTold_0 : decode cX9_isTold 0 = .ok (.iconst 0, 1) := by decide +kernel
theorem dX9_isTold_1 : decode cX9_isTold 1 = .ok (.istore 5, 2) := by decide +kernel
theorem dX9_isTold_3 : decode cX9_isTold 3 = .ok (.iconst 0, 1) := by decide +kernel
theorem dX9_isTold_4 : decode cX9_isTold 4 = .ok (.istore 6, 2) := by decide +kernel
theorem dX9_isTold_6 : decode cX9_isTold 6 = .ok (.iload 6, 2) := by decide +kernel
theorem dX9_isTold_8 : decode cX9_isTold 8 = .ok (.aload_n 0, 1) := by decide +kernel
theorem dX9_isTold_9 : decode cX9_isTold 9 = .ok (.getfield 86, 3) := by decide +kernel
theorem dX9_isTold_12 : decode cX9_isTold 12 = .ok (.if_icmp .ge 44, 3) := by decide +kernel
theorem dX9_isTold_15 : decode cX9_isTold 15 = .ok (.iload 5, 2) := by decide +kernel
theorem dX9_isTold_17 : decode cX9_isTold 17 = .ok (.ifCond .ne 26, 3) := by decide +kernel
theorem dX9_isTold_20 : decode cX9_isTold 20 = .ok (.aload_n 0, 1) := by decide +kernel
theorem dX9_isTold_21 : decode cX9_isTold 21 = .ok (.iload 6, 2) := by decide +kernel
theorem dX9_isTold_23 : decode cX9_isTold 23 = .ok (.iload_n 1, 1) := by decide +kernel
theorem dX9_isTold_24 : decode cX9_isTold 24 = .ok (.invokevirtual 105, 3) := by decide +kernel
theorem dX9_isTold_27 : decode cX9_isTold 27 = .ok (.iload_n 2, 1) := by decide +kernel
theorem dX9_isTold_28 : decode cX9_isTold 28 = .ok (.if_icmp .ne 19, 3) := by decide +kernel
theorem dX9_isTold_31 : decode cX9_isTold 31 = .ok (.aload_n 0, 1) := by decide +kernel
theorem dX9_isTold_32 : decode cX9_isTold 32 = .ok (.iload 6, 2) := by decide +kernel
theorem dX9_isTold_34 : decode cX9_isTold 34 = .ok (.iload_n 3, 1) := by decide +kernel
theorem dX9_isTold_35 : decode cX9_isTold 35 = .ok (.invokevirtual 105, 3) := by decide +kernel
theorem dX9_isTold_38 : decode cX9_isTold 38 = .ok (.iload 4, 2) := by decide +kernel
theorem dX9_isTold_40 : decode cX9_isTold 40 = .ok (.if_icmp .ne 7, 3) := by decide +kernel
theorem dX9_isTold_43 : decode cX9_isTold 43 = .ok (.iconst 1, 1) := by decide +kernel
theorem dX9_isTold_44 : decode cX9_isTold 44 = .ok (.goto 4, 3) := by decide +kernel
theorem dX9_isTold_47 : decode cX9_isTold 47 = .ok (.iconst 0, 1) := by decide +kernel
theorem dX9_isTold_48 : decode cX9_isTold 48 = .ok (.istore 5, 2) := by decide +kernel
theorem dX9_isTold_50 : decode cX9_isTold 50 = .ok (.iinc 6 1, 3) := by decide +kernel
theorem dX9_isTold_53 : decode cX9_isTold 53 = .ok (.goto (-47), 3) := by decide +kernel
theorem dX9_isTold_56 : decode cX9_isTold 56 = .ok (.iload 5, 2) := by decide +kernel
theorem dX9_isTold_58 : decode cX9_isTold 58 = .ok (.ireturn, 1) := by decide +kernel
theorem dX9_quarrels_0 : decode cX9_quarrels 0 = .ok (.iconst 0, 1) := by decide +kernel
theorem dX9_quarrels_1 : decode cX9_quarrels 1 = .ok (.istore_n 3, 1) := by decide +kernel
theorem dX9_quarrels_2 : decode cX9_quarrels 2 = .ok (.iconst 0, 1) := by decide +kernel
theorem dX9_quarrels_3 : decode cX9_quarrels 3 = .ok (.istore 4, 2) := by decide +kernel
theorem dX9_quarrels_5 : decode cX9_quarrels 5 = .ok (.iload 4, 2) := by decide +kernel
theorem dX9_quarrels_7 : decode cX9_quarrels 7 = .ok (.sipush 256, 3) := by decide +kernel
theorem dX9_quarrels_10 : decode cX9_quarrels 10 = .ok (.if_icmp .ge 115, 3) := by decide +kernel
theorem dX9_quarrels_13 : decode cX9_quarrels 13 = .ok (.iload 4, 2) := by decide +kernel
theorem dX9_quarrels_15 : decode cX9_quarrels 15 = .ok (.bipush 64, 2) := by decide +kernel
theorem dX9_quarrels_17 : decode cX9_quarrels 17 = .ok (.idiv, 1) := by decide +kernel
theorem dX9_quarrels_18 : decode cX9_quarrels 18 = .ok (.istore 5, 2) := by decide +kernel
theorem dX9_quarrels_20 : decode cX9_quarrels 20 = .ok (.iload 4, 2) := by decide +kernel
theorem dX9_quarrels_22 : decode cX9_quarrels 22 = .ok (.bipush 16, 2) := by decide +kernel
theorem dX9_quarrels_24 : decode cX9_quarrels 24 = .ok (.idiv, 1) := by decide +kernel
theorem dX9_quarrels_25 : decode cX9_quarrels 25 = .ok (.iconst 4, 1) := by decide +kernel
theorem dX9_quarrels_26 : decode cX9_quarrels 26 = .ok (.irem, 1) := by decide +kernel
theorem dX9_quarrels_27 : decode cX9_quarrels 27 = .ok (.istore 6, 2) := by decide +kernel
theorem dX9_quarrels_29 : decode cX9_quarrels 29 = .ok (.iload 4, 2) := by decide +kernel
theorem dX9_quarrels_31 : decode cX9_quarrels 31 = .ok (.iconst 4, 1) := by decide +kernel
theorem dX9_quarrels_32 : decode cX9_quarrels 32 = .ok (.idiv, 1) := by decide +kernel
theorem dX9_quarrels_33 : decode cX9_quarrels 33 = .ok (.iconst 4, 1) := by decide +kernel
theorem dX9_quarrels_34 : decode cX9_quarrels 34 = .ok (.irem, 1) := by decide +kernel
theorem dX9_quarrels_35 : decode cX9_quarrels 35 = .ok (.istore 7, 2) := by decide +kernel
theorem dX9_quarrels_37 : decode cX9_quarrels 37 = .ok (.iload 4, 2) := by decide +kernel
theorem dX9_quarrels_39 : decode cX9_quarrels 39 = .ok (.iconst 4, 1) := by decide +kernel
theorem dX9_quarrels_40 : decode cX9_quarrels 40 = .ok (.irem, 1) := by decide +kernel
theorem dX9_quarrels_41 : decode cX9_quarrels 41 = .ok (.istore 8, 2) := by decide +kernel
theorem dX9_quarrels_43 : decode cX9_quarrels 43 = .ok (.iload_n 3, 1) := by decide +kernel
theorem dX9_quarrels_44 : decode cX9_quarrels 44 = .ok (.ifCond .ne 69, 3) := by decide +kernel
theorem dX9_quarrels_47 : decode cX9_quarrels 47 = .ok (.iload 5, 2) := by decide +kernel
theorem dX9_quarrels_49 : decode cX9_quarrels 49 = .ok (.iload 6, 2) := by decide +kernel
theorem dX9_quarrels_51 : decode cX9_quarrels 51 = .ok (.if_icmp .ge 66, 3) := by decide +kernel
theorem dX9_quarrels_54 : decode cX9_quarrels 54 = .ok (.iload 7, 2) := by decide +kernel
theorem dX9_quarrels_56 : decode cX9_quarrels 56 = .ok (.iload 8, 2) := by decide +kernel
theorem dX9_quarrels_58 : decode cX9_quarrels 58 = .ok (.if_icmp .ge 59, 3) := by decide +kernel
theorem dX9_quarrels_61 : decode cX9_quarrels 61 = .ok (.aload_n 0, 1) := by decide +kernel
theorem dX9_quarrels_62 : decode cX9_quarrels 62 = .ok (.iload_n 1, 1) := by decide +kernel
theorem dX9_quarrels_63 : decode cX9_quarrels 63 = .ok (.iload 5, 2) := by decide +kernel
theorem dX9_quarrels_65 : decode cX9_quarrels 65 = .ok (.iload_n 2, 1) := by decide +kernel
theorem dX9_quarrels_66 : decode cX9_quarrels 66 = .ok (.iload 7, 2) := by decide +kernel
theorem dX9_quarrels_68 : decode cX9_quarrels 68 = .ok (.invokevirtual 188, 3) := by decide +kernel
theorem dX9_quarrels_71 : decode cX9_quarrels 71 = .ok (.ifCond .eq 46, 3) := by decide +kernel
theorem dX9_quarrels_74 : decode cX9_quarrels 74 = .ok (.aload_n 0, 1) := by decide +kernel
theorem dX9_quarrels_75 : decode cX9_quarrels 75 = .ok (.iload_n 1, 1) := by decide +kernel
theorem dX9_quarrels_76 : decode cX9_quarrels 76 = .ok (.iload 5, 2) := by decide +kernel
theorem dX9_quarrels_78 : decode cX9_quarrels 78 = .ok (.iload_n 2, 1) := by decide +kernel
theorem dX9_quarrels_79 : decode cX9_quarrels 79 = .ok (.iload 8, 2) := by decide +kernel
theorem dX9_quarrels_81 : decode cX9_quarrels 81 = .ok (.invokevirtual 188, 3) := by decide +kernel
theorem dX9_quarrels_84 : decode cX9_quarrels 84 = .ok (.ifCond .eq 33, 3) := by decide +kernel
theorem dX9_quarrels_87 : decode cX9_quarrels 87 = .ok (.aload_n 0, 1) := by decide +kernel
theorem dX9_quarrels_88 : decode cX9_quarrels 88 = .ok (.iload_n 1, 1) := by decide +kernel
theorem dX9_quarrels_89 : decode cX9_quarrels 89 = .ok (.iload 6, 2) := by decide +kernel
theorem dX9_quarrels_91 : decode cX9_quarrels 91 = .ok (.iload_n 2, 1) := by decide +kernel
theorem dX9_quarrels_92 : decode cX9_quarrels 92 = .ok (.iload 7, 2) := by decide +kernel
theorem dX9_quarrels_94 : decode cX9_quarrels 94 = .ok (.invokevirtual 188, 3) := by decide +kernel
theorem dX9_quarrels_97 : decode cX9_quarrels 97 = .ok (.ifCond .eq 20, 3) := by decide +kernel
theorem dX9_quarrels_100 : decode cX9_quarrels 100 = .ok (.aload_n 0, 1) := by decide +kernel
theorem dX9_quarrels_101 : decode cX9_quarrels 101 = .ok (.iload_n 1, 1) := by decide +kernel
theorem dX9_quarrels_102 : decode cX9_quarrels 102 = .ok (.iload 6, 2) := by decide +kernel
theorem dX9_quarrels_104 : decode cX9_quarrels 104 = .ok (.iload_n 2, 1) := by decide +kernel
theorem dX9_quarrels_105 : decode cX9_quarrels 105 = .ok (.iload 8, 2) := by decide +kernel
theorem dX9_quarrels_107 : decode cX9_quarrels 107 = .ok (.invokevirtual 188, 3) := by decide +kernel
theorem dX9_quarrels_110 : decode cX9_quarrels 110 = .ok (.ifCond .eq 7, 3) := by decide +kernel
theorem dX9_quarrels_113 : decode cX9_quarrels 113 = .ok (.iconst 1, 1) := by decide +kernel
theorem dX9_quarrels_114 : decode cX9_quarrels 114 = .ok (.goto 4, 3) := by decide +kernel
theorem dX9_quarrels_117 : decode cX9_quarrels 117 = .ok (.iconst 0, 1) := by decide +kernel
theorem dX9_quarrels_118 : decode cX9_quarrels 118 = .ok (.istore_n 3, 1) := by decide +kernel
theorem dX9_quarrels_119 : decode cX9_quarrels 119 = .ok (.iinc 4 1, 3) := by decide +kernel
theorem dX9_quarrels_122 : decode cX9_quarrels 122 = .ok (.goto (-117), 3) := by decide +kernel
theorem dX9_quarrels_125 : decode cX9_quarrels 125 = .ok (.iload_n 3, 1) := by decide +kernel
theorem dX9_quarrels_126 : decode cX9_quarrels 126 = .ok (.ireturn, 1) := by decide +kernel
theorem dX9_quarrel_0 : decode cX9_quarrel 0 = .ok (.aload_n 0, 1) := by decide +kernel
theorem dX9_quarrel_1 : decode cX9_quarrel 1 = .ok (.iload_n 1, 1) := by decide +kernel
theorem dX9_quarrel_2 : decode cX9_quarrel 2 = .ok (.invokevirtual 102, 3) := by decide +kernel
theorem dX9_quarrel_5 : decode cX9_quarrel 5 = .ok (.ifCond .eq 16, 3) := by decide +kernel
theorem dX9_quarrel_8 : decode cX9_quarrel 8 = .ok (.aload_n 0, 1) := by decide +kernel
theorem dX9_quarrel_9 : decode cX9_quarrel 9 = .ok (.iload_n 2, 1) := by decide +kernel
theorem dX9_quarrel_10 : decode cX9_quarrel 10 = .ok (.invokevirtual 102, 3) := by decide +kernel
theorem dX9_quarrel_13 : decode cX9_quarrel 13 = .ok (.ifCond .eq 8, 3) := by decide +kernel
theorem dX9_quarrel_16 : decode cX9_quarrel 16 = .ok (.iload_n 1, 1) := by decide +kernel
theorem dX9_quarrel_17 : decode cX9_quarrel 17 = .ok (.iload_n 2, 1) := by decide +kernel
theorem dX9_quarrel_18 : decode cX9_quarrel 18 = .ok (.if_icmp .ne 5, 3) := by decide +kernel
theorem dX9_quarrel_21 : decode cX9_quarrel 21 = .ok (.iconst (-1), 1) := by decide +kernel
theorem dX9_quarrel_22 : decode cX9_quarrel 22 = .ok (.ireturn, 1) := by decide +kernel
theorem dX9_quarrel_23 : decode cX9_quarrel 23 = .ok (.aload_n 0, 1) := by decide +kernel
theorem dX9_quarrel_24 : decode cX9_quarrel 24 = .ok (.iload_n 1, 1) := by decide +kernel
theorem dX9_quarrel_25 : decode cX9_quarrel 25 = .ok (.iload_n 2, 1) := by decide +kernel
theorem dX9_quarrel_26 : decode cX9_quarrel 26 = .ok (.invokevirtual 192, 3) := by decide +kernel
theorem dX9_quarrel_29 : decode cX9_quarrel 29 = .ok (.ifCond .eq 7, 3) := by decide +kernel
theorem dX9_quarrel_32 : decode cX9_quarrel 32 = .ok (.iconst 1, 1) := by decide +kernel
theorem dX9_quarrel_33 : decode cX9_quarrel 33 = .ok (.goto 4, 3) := by decide +kernel
theorem dX9_quarrel_36 : decode cX9_quarrel 36 = .ok (.iconst 0, 1) := by decide +kernel
theorem dX9_quarrel_37 : decode cX9_quarrel 37 = .ok (.ireturn, 1) := by decide +kernel
theorem dX9_shared_0 : decode cX9_shared 0 = .ok (.aload_n 0, 1) := by decide +kernel
theorem dX9_shared_1 : decode cX9_shared 1 = .ok (.iload_n 1, 1) := by decide +kernel
theorem dX9_shared_2 : decode cX9_shared 2 = .ok (.invokevirtual 102, 3) := by decide +kernel
theorem dX9_shared_5 : decode cX9_shared 5 = .ok (.ifCond .eq 11, 3) := by decide +kernel
theorem dX9_shared_8 : decode cX9_shared 8 = .ok (.aload_n 0, 1) := by decide +kernel
theorem dX9_shared_9 : decode cX9_shared 9 = .ok (.iload_n 2, 1) := by decide +kernel
theorem dX9_shared_10 : decode cX9_shared 10 = .ok (.invokevirtual 98, 3) := by decide +kernel
theorem dX9_shared_13 : decode cX9_shared 13 = .ok (.ifCond .ne 5, 3) := by decide +kernel
theorem dX9_shared_16 : decode cX9_shared 16 = .ok (.iconst (-1), 1) := by decide +kernel
theorem dX9_shared_17 : decode cX9_shared 17 = .ok (.ireturn, 1) := by decide +kernel
theorem dX9_shared_18 : decode cX9_shared 18 = .ok (.iconst 0, 1) := by decide +kernel
theorem dX9_shared_19 : decode cX9_shared 19 = .ok (.istore_n 3, 1) := by decide +kernel
theorem dX9_shared_20 : decode cX9_shared 20 = .ok (.iconst 0, 1) := by decide +kernel
theorem dX9_shared_21 : decode cX9_shared 21 = .ok (.istore 4, 2) := by decide +kernel
theorem dX9_shared_23 : decode cX9_shared 23 = .ok (.iload 4, 2) := by decide +kernel
theorem dX9_shared_25 : decode cX9_shared 25 = .ok (.aload_n 0, 1) := by decide +kernel
theorem dX9_shared_26 : decode cX9_shared 26 = .ok (.getfield 86, 3) := by decide +kernel
theorem dX9_shared_29 : decode cX9_shared 29 = .ok (.if_icmp .ge 36, 3) := by decide +kernel
theorem dX9_shared_32 : decode cX9_shared 32 = .ok (.iload_n 3, 1) := by decide +kernel
theorem dX9_shared_33 : decode cX9_shared 33 = .ok (.aload_n 0, 1) := by decide +kernel
theorem dX9_shared_34 : decode cX9_shared 34 = .ok (.iload 4, 2) := by decide +kernel
theorem dX9_shared_36 : decode cX9_shared 36 = .ok (.iload_n 1, 1) := by decide +kernel
theorem dX9_shared_37 : decode cX9_shared 37 = .ok (.invokevirtual 105, 3) := by decide +kernel
theorem dX9_shared_40 : decode cX9_shared 40 = .ok (.aload_n 0, 1) := by decide +kernel
theorem dX9_shared_41 : decode cX9_shared 41 = .ok (.iload_n 2, 1) := by decide +kernel
theorem dX9_shared_42 : decode cX9_shared 42 = .ok (.iload_n 1, 1) := by decide +kernel
theorem dX9_shared_43 : decode cX9_shared 43 = .ok (.invokevirtual 105, 3) := by decide +kernel
theorem dX9_shared_46 : decode cX9_shared 46 = .ok (.if_icmp .ne 10, 3) := by decide +kernel
theorem dX9_shared_49 : decode cX9_shared 49 = .ok (.iconst 1, 1) := by decide +kernel
theorem dX9_shared_50 : decode cX9_shared 50 = .ok (.iload 4, 2) := by decide +kernel
theorem dX9_shared_52 : decode cX9_shared 52 = .ok (.ishl, 1) := by decide +kernel
theorem dX9_shared_53 : decode cX9_shared 53 = .ok (.goto 4, 3) := by decide +kernel
theorem dX9_shared_56 : decode cX9_shared 56 = .ok (.iconst 0, 1) := by decide +kernel
theorem dX9_shared_57 : decode cX9_shared 57 = .ok (.ior, 1) := by decide +kernel
theorem dX9_shared_58 : decode cX9_shared 58 = .ok (.istore_n 3, 1) := by decide +kernel
theorem dX9_shared_59 : decode cX9_shared 59 = .ok (.iinc 4 1, 3) := by decide +kernel
theorem dX9_shared_62 : decode cX9_shared 62 = .ok (.goto (-39), 3) := by decide +kernel
theorem dX9_shared_65 : decode cX9_shared 65 = .ok (.aload_n 0, 1) := by decide +kernel
theorem dX9_shared_66 : decode cX9_shared 66 = .ok (.iload_n 2, 1) := by decide +kernel
theorem dX9_shared_67 : decode cX9_shared 67 = .ok (.iload_n 1, 1) := by decide +kernel
theorem dX9_shared_68 : decode cX9_shared 68 = .ok (.invokevirtual 105, 3) := by decide +kernel
theorem dX9_shared_71 : decode cX9_shared 71 = .ok (.iconst 4, 1) := by decide +kernel
theorem dX9_shared_72 : decode cX9_shared 72 = .ok (.if_icmp .ne 7, 3) := by decide +kernel
theorem dX9_shared_75 : decode cX9_shared 75 = .ok (.iconst 0, 1) := by decide +kernel
theorem dX9_shared_76 : decode cX9_shared 76 = .ok (.goto 4, 3) := by decide +kernel
theorem dX9_shared_79 : decode cX9_shared 79 = .ok (.iload_n 3, 1) := by decide +kernel
theorem dX9_shared_80 : decode cX9_shared 80 = .ok (.ireturn, 1) := by decide +kernel
theorem dX9_unlikes_0 : decode cX9_unlikes 0 = .ok (.iconst 0, 1) := by decide +kernel
theorem dX9_unlikes_1 : decode cX9_unlikes 1 = .ok (.istore 5, 2) := by decide +kernel
theorem dX9_unlikes_3 : decode cX9_unlikes 3 = .ok (.iload_n 3, 1) := by decide +kernel
theorem dX9_unlikes_4 : decode cX9_unlikes 4 = .ok (.istore 6, 2) := by decide +kernel
theorem dX9_unlikes_6 : decode cX9_unlikes 6 = .ok (.iload 6, 2) := by decide +kernel
theorem dX9_unlikes_8 : decode cX9_unlikes 8 = .ok (.iload 4, 2) := by decide +kernel
theorem dX9_unlikes_10 : decode cX9_unlikes 10 = .ok (.if_icmp .ge 56, 3) := by decide +kernel
theorem dX9_unlikes_13 : decode cX9_unlikes 13 = .ok (.aload_n 0, 1) := by decide +kernel
theorem dX9_unlikes_14 : decode cX9_unlikes 14 = .ok (.iload_n 1, 1) := by decide +kernel
theorem dX9_unlikes_15 : decode cX9_unlikes 15 = .ok (.iload 6, 2) := by decide +kernel
theorem dX9_unlikes_17 : decode cX9_unlikes 17 = .ok (.invokevirtual 105, 3) := by decide +kernel
theorem dX9_unlikes_20 : decode cX9_unlikes 20 = .ok (.istore 7, 2) := by decide +kernel
theorem dX9_unlikes_22 : decode cX9_unlikes 22 = .ok (.aload_n 0, 1) := by decide +kernel
theorem dX9_unlikes_23 : decode cX9_unlikes 23 = .ok (.iload_n 2, 1) := by decide +kernel
theorem dX9_unlikes_24 : decode cX9_unlikes 24 = .ok (.iload 6, 2) := by decide +kernel
theorem dX9_unlikes_26 : decode cX9_unlikes 26 = .ok (.invokevirtual 105, 3) := by decide +kernel
theorem dX9_unlikes_29 : decode cX9_unlikes 29 = .ok (.istore 8, 2) := by decide +kernel
theorem dX9_unlikes_31 : decode cX9_unlikes 31 = .ok (.iload 5, 2) := by decide +kernel
theorem dX9_unlikes_33 : decode cX9_unlikes 33 = .ok (.iload 7, 2) := by decide +kernel
theorem dX9_unlikes_35 : decode cX9_unlikes 35 = .ok (.iconst 4, 1) := by decide +kernel
theorem dX9_unlikes_36 : decode cX9_unlikes 36 = .ok (.if_icmp .eq 20, 3) := by decide +kernel
theorem dX9_unlikes_39 : decode cX9_unlikes 39 = .ok (.iload 8, 2) := by decide +kernel
theorem dX9_unlikes_41 : decode cX9_unlikes 41 = .ok (.iconst 4, 1) := by decide +kernel
theorem dX9_unlikes_42 : decode cX9_unlikes 42 = .ok (.if_icmp .eq 14, 3) := by decide +kernel
theorem dX9_unlikes_45 : decode cX9_unlikes 45 = .ok (.iload 7, 2) := by decide +kernel
theorem dX9_unlikes_47 : decode cX9_unlikes 47 = .ok (.iload 8, 2) := by decide +kernel
theorem dX9_unlikes_49 : decode cX9_unlikes 49 = .ok (.if_icmp .eq 7, 3) := by decide +kernel
theorem dX9_unlikes_52 : decode cX9_unlikes 52 = .ok (.iconst 1, 1) := by decide +kernel
theorem dX9_unlikes_53 : decode cX9_unlikes 53 = .ok (.goto 4, 3) := by decide +kernel
theorem dX9_unlikes_56 : decode cX9_unlikes 56 = .ok (.iconst 0, 1) := by decide +kernel
theorem dX9_unlikes_57 : decode cX9_unlikes 57 = .ok (.iadd, 1) := by decide +kernel
theorem dX9_unlikes_58 : decode cX9_unlikes 58 = .ok (.istore 5, 2) := by decide +kernel
theorem dX9_unlikes_60 : decode cX9_unlikes 60 = .ok (.iinc 6 1, 3) := by decide +kernel
theorem dX9_unlikes_63 : decode cX9_unlikes 63 = .ok (.goto (-57), 3) := by decide +kernel
theorem dX9_unlikes_66 : decode cX9_unlikes 66 = .ok (.iload 5, 2) := by decide +kernel
theorem dX9_unlikes_68 : decode cX9_unlikes 68 = .ok (.ireturn, 1) := by decide +kernel
theorem dX9_mixed_0 : decode cX9_mixed 0 = .ok (.aload_n 0, 1) := by decide +kernel
theorem dX9_mixed_1 : decode cX9_mixed 1 = .ok (.iload_n 1, 1) := by decide +kernel
theorem dX9_mixed_2 : decode cX9_mixed 2 = .ok (.invokevirtual 98, 3) := by decide +kernel
theorem dX9_mixed_5 : decode cX9_mixed 5 = .ok (.ifCond .eq 12, 3) := by decide +kernel
theorem dX9_mixed_8 : decode cX9_mixed 8 = .ok (.iload_n 2, 1) := by decide +kernel
theorem dX9_mixed_9 : decode cX9_mixed 9 = .ok (.iconst 0, 1) := by decide +kernel
theorem dX9_mixed_10 : decode cX9_mixed 10 = .ok (.iconst 4, 1) := by decide +kernel
theorem dX9_mixed_11 : decode cX9_mixed 11 = .ok (.invokestatic 50, 3) := by decide +kernel
theorem dX9_mixed_14 : decode cX9_mixed 14 = .ok (.ifCond .ne 5, 3) := by decide +kernel
theorem dX9_mixed_17 : decode cX9_mixed 17 = .ok (.iconst (-1), 1) := by decide +kernel
theorem dX9_mixed_18 : decode cX9_mixed 18 = .ok (.ireturn, 1) := by decide +kernel
theorem dX9_mixed_19 : decode cX9_mixed 19 = .ok (.aload_n 0, 1) := by decide +kernel
theorem dX9_mixed_20 : decode cX9_mixed 20 = .ok (.getfield 47, 3) := by decide +kernel
theorem dX9_mixed_23 : decode cX9_mixed 23 = .ok (.astore_n 3, 1) := by decide +kernel
theorem dX9_mixed_24 : decode cX9_mixed 24 = .ok (.aload_n 3, 1) := by decide +kernel
theorem dX9_mixed_25 : decode cX9_mixed 25 = .ok (.iconst 0, 1) := by decide +kernel
theorem dX9_mixed_26 : decode cX9_mixed 26 = .ok (.sipush 9999, 3) := by decide +kernel
theorem dX9_mixed_29 : decode cX9_mixed 29 = .ok (.iastore, 1) := by decide +kernel
theorem dX9_mixed_30 : decode cX9_mixed 30 = .ok (.aload_n 3, 1) := by decide +kernel
theorem dX9_mixed_31 : decode cX9_mixed 31 = .ok (.iconst 4, 1) := by decide +kernel
theorem dX9_mixed_32 : decode cX9_mixed 32 = .ok (.sipush 9999, 3) := by decide +kernel
theorem dX9_mixed_35 : decode cX9_mixed 35 = .ok (.iastore, 1) := by decide +kernel
theorem dX9_mixed_36 : decode cX9_mixed 36 = .ok (.iconst 0, 1) := by decide +kernel
theorem dX9_mixed_37 : decode cX9_mixed 37 = .ok (.istore 4, 2) := by decide +kernel
theorem dX9_mixed_39 : decode cX9_mixed 39 = .ok (.iload 4, 2) := by decide +kernel
theorem dX9_mixed_41 : decode cX9_mixed 41 = .ok (.aload_n 0, 1) := by decide +kernel
theorem dX9_mixed_42 : decode cX9_mixed 42 = .ok (.getfield 86, 3) := by decide +kernel
theorem dX9_mixed_45 : decode cX9_mixed 45 = .ok (.if_icmp .ge 163, 3) := by decide +kernel
theorem dX9_mixed_48 : decode cX9_mixed 48 = .ok (.iload 4, 2) := by decide +kernel
theorem dX9_mixed_50 : decode cX9_mixed 50 = .ok (.iload_n 1, 1) := by decide +kernel
theorem dX9_mixed_51 : decode cX9_mixed 51 = .ok (.if_icmp .ne 9, 3) := by decide +kernel
theorem dX9_mixed_54 : decode cX9_mixed 54 = .ok (.sipush 9999, 3) := by decide +kernel
theorem dX9_mixed_57 : decode cX9_mixed 57 = .ok (.goto 15, 3) := by decide +kernel
theorem dX9_mixed_60 : decode cX9_mixed 60 = .ok (.aload_n 0, 1) := by decide +kernel
theorem dX9_mixed_61 : decode cX9_mixed 61 = .ok (.iload_n 1, 1) := by decide +kernel
theorem dX9_mixed_62 : decode cX9_mixed 62 = .ok (.iload 4, 2) := by decide +kernel
theorem dX9_mixed_64 : decode cX9_mixed 64 = .ok (.iconst 0, 1) := by decide +kernel
theorem dX9_mixed_65 : decode cX9_mixed 65 = .ok (.aload_n 0, 1) := by decide +kernel
theorem dX9_mixed_66 : decode cX9_mixed 66 = .ok (.getfield 89, 3) := by decide +kernel
theorem dX9_mixed_69 : decode cX9_mixed 69 = .ok (.invokevirtual 195, 3) := by decide +kernel
theorem dX9_mixed_72 : decode cX9_mixed 72 = .ok (.istore 5, 2) := by decide +kernel
theorem dX9_mixed_74 : decode cX9_mixed 74 = .ok (.aload_n 3, 1) := by decide +kernel
theorem dX9_mixed_75 : decode cX9_mixed 75 = .ok (.iconst 4, 1) := by decide +kernel
theorem dX9_mixed_76 : decode cX9_mixed 76 = .ok (.iload 5, 2) := by decide +kernel
theorem dX9_mixed_78 : decode cX9_mixed 78 = .ok (.aload_n 3, 1) := by decide +kernel
theorem dX9_mixed_79 : decode cX9_mixed 79 = .ok (.iconst 4, 1) := by decide +kernel
theorem dX9_mixed_80 : decode cX9_mixed 80 = .ok (.iaload, 1) := by decide +kernel
theorem dX9_mixed_81 : decode cX9_mixed 81 = .ok (.if_icmp .ge 8, 3) := by decide +kernel
theorem dX9_mixed_84 : decode cX9_mixed 84 = .ok (.iload 5, 2) := by decide +kernel
theorem dX9_mixed_86 : decode cX9_mixed 86 = .ok (.goto 6, 3) := by decide +kernel
theorem dX9_mixed_89 : decode cX9_mixed 89 = .ok (.aload_n 3, 1) := by decide +kernel
theorem dX9_mixed_90 : decode cX9_mixed 90 = .ok (.iconst 4, 1) := by decide +kernel
theorem dX9_mixed_91 : decode cX9_mixed 91 = .ok (.iaload, 1) := by decide +kernel
theorem dX9_mixed_92 : decode cX9_mixed 92 = .ok (.iastore, 1) := by decide +kernel
theorem dX9_mixed_93 : decode cX9_mixed 93 = .ok (.iconst 0, 1) := by decide +kernel
theorem dX9_mixed_94 : decode cX9_mixed 94 = .ok (.istore 6, 2) := by decide +kernel
theorem dX9_mixed_96 : decode cX9_mixed 96 = .ok (.iload 6, 2) := by decide +kernel
theorem dX9_mixed_98 : decode cX9_mixed 98 = .ok (.aload_n 0, 1) := by decide +kernel
theorem dX9_mixed_99 : decode cX9_mixed 99 = .ok (.getfield 86, 3) := by decide +kernel
theorem dX9_mixed_102 : decode cX9_mixed 102 = .ok (.if_icmp .ge 100, 3) := by decide +kernel
theorem dX9_mixed_105 : decode cX9_mixed 105 = .ok (.iload 4, 2) := by decide +kernel
theorem dX9_mixed_107 : decode cX9_mixed 107 = .ok (.iload_n 1, 1) := by decide +kernel
theorem dX9_mixed_108 : decode cX9_mixed 108 = .ok (.if_icmp .eq 94, 3) := by decide +kernel
theorem dX9_mixed_111 : decode cX9_mixed 111 = .ok (.iconst 1, 1) := by decide +kernel
theorem dX9_mixed_112 : decode cX9_mixed 112 = .ok (.istore 7, 2) := by decide +kernel
theorem dX9_mixed_114 : decode cX9_mixed 114 = .ok (.iload 7, 2) := by decide +kernel
theorem dX9_mixed_116 : decode cX9_mixed 116 = .ok (.aload_n 0, 1) := by decide +kernel
theorem dX9_mixed_117 : decode cX9_mixed 117 = .ok (.getfield 89, 3) := by decide +kernel
theorem dX9_mixed_120 : decode cX9_mixed 120 = .ok (.if_icmp .ge 76, 3) := by decide +kernel
theorem dX9_mixed_123 : decode cX9_mixed 123 = .ok (.iload 6, 2) := by decide +kernel
theorem dX9_mixed_125 : decode cX9_mixed 125 = .ok (.iload 4, 2) := by decide +kernel
theorem dX9_mixed_127 : decode cX9_mixed 127 = .ok (.if_icmp .eq 69, 3) := by decide +kernel
theorem dX9_mixed_130 : decode cX9_mixed 130 = .ok (.iload 6, 2) := by decide +kernel
theorem dX9_mixed_132 : decode cX9_mixed 132 = .ok (.iload_n 1, 1) := by decide +kernel
theorem dX9_mixed_133 : decode cX9_mixed 133 = .ok (.if_icmp .eq 63, 3) := by decide +kernel
theorem dX9_mixed_136 : decode cX9_mixed 136 = .ok (.aload_n 0, 1) := by decide +kernel
theorem dX9_mixed_137 : decode cX9_mixed 137 = .ok (.iload_n 1, 1) := by decide +kernel
theorem dX9_mixed_138 : decode cX9_mixed 138 = .ok (.iload 4, 2) := by decide +kernel
theorem dX9_mixed_140 : decode cX9_mixed 140 = .ok (.iconst 0, 1) := by decide +kernel
theorem dX9_mixed_141 : decode cX9_mixed 141 = .ok (.iload 7, 2) := by decide +kernel
theorem dX9_mixed_143 : decode cX9_mixed 143 = .ok (.invokevirtual 195, 3) := by decide +kernel
theorem dX9_mixed_146 : decode cX9_mixed 146 = .ok (.aload_n 0, 1) := by decide +kernel
theorem dX9_mixed_147 : decode cX9_mixed 147 = .ok (.iload_n 1, 1) := by decide +kernel
theorem dX9_mixed_148 : decode cX9_mixed 148 = .ok (.iload 6, 2) := by decide +kernel
theorem dX9_mixed_150 : decode cX9_mixed 150 = .ok (.iload 7, 2) := by decide +kernel
theorem dX9_mixed_152 : decode cX9_mixed 152 = .ok (.aload_n 0, 1) := by decide +kernel
theorem dX9_mixed_153 : decode cX9_mixed 153 = .ok (.getfield 89, 3) := by decide +kernel
theorem dX9_mixed_156 : decode cX9_mixed 156 = .ok (.invokevirtual 195, 3) := by decide +kernel
theorem dX9_mixed_159 : decode cX9_mixed 159 = .ok (.iadd, 1) := by decide +kernel
theorem dX9_mixed_160 : decode cX9_mixed 160 = .ok (.istore 8, 2) := by decide +kernel
theorem dX9_mixed_162 : decode cX9_mixed 162 = .ok (.iload 8, 2) := by decide +kernel
theorem dX9_mixed_164 : decode cX9_mixed 164 = .ok (.aload_n 3, 1) := by decide +kernel
theorem dX9_mixed_165 : decode cX9_mixed 165 = .ok (.iconst 0, 1) := by decide +kernel
theorem dX9_mixed_166 : decode cX9_mixed 166 = .ok (.iaload, 1) := by decide +kernel
theorem dX9_mixed_167 : decode cX9_mixed 167 = .ok (.if_icmp .ge 23, 3) := by decide +kernel
theorem dX9_mixed_170 : decode cX9_mixed 170 = .ok (.aload_n 3, 1) := by decide +kernel
theorem dX9_mixed_171 : decode cX9_mixed 171 = .ok (.iconst 0, 1) := by decide +kernel
theorem dX9_mixed_172 : decode cX9_mixed 172 = .ok (.iload 8, 2) := by decide +kernel
theorem dX9_mixed_174 : decode cX9_mixed 174 = .ok (.iastore, 1) := by decide +kernel
theorem dX9_mixed_175 : decode cX9_mixed 175 = .ok (.aload_n 3, 1) := by decide +kernel
theorem dX9_mixed_176 : decode cX9_mixed 176 = .ok (.iconst 1, 1) := by decide +kernel
theorem dX9_mixed_177 : decode cX9_mixed 177 = .ok (.iload 4, 2) := by decide +kernel
theorem dX9_mixed_179 : decode cX9_mixed 179 = .ok (.iastore, 1) := by decide +kernel
theorem dX9_mixed_180 : decode cX9_mixed 180 = .ok (.aload_n 3, 1) := by decide +kernel
theorem dX9_mixed_181 : decode cX9_mixed 181 = .ok (.iconst 2, 1) := by decide +kernel
theorem dX9_mixed_182 : decode cX9_mixed 182 = .ok (.iload 6, 2) := by decide +kernel
theorem dX9_mixed_184 : decode cX9_mixed 184 = .ok (.iastore, 1) := by decide +kernel
theorem dX9_mixed_185 : decode cX9_mixed 185 = .ok (.aload_n 3, 1) := by decide +kernel
theorem dX9_mixed_186 : decode cX9_mixed 186 = .ok (.iconst 3, 1) := by decide +kernel
theorem dX9_mixed_187 : decode cX9_mixed 187 = .ok (.iload 7, 2) := by decide +kernel
theorem dX9_mixed_189 : decode cX9_mixed 189 = .ok (.iastore, 1) := by decide +kernel
theorem dX9_mixed_190 : decode cX9_mixed 190 = .ok (.iinc 7 1, 3) := by decide +kernel
theorem dX9_mixed_193 : decode cX9_mixed 193 = .ok (.goto (-79), 3) := by decide +kernel
theorem dX9_mixed_196 : decode cX9_mixed 196 = .ok (.iinc 6 1, 3) := by decide +kernel
theorem dX9_mixed_199 : decode cX9_mixed 199 = .ok (.goto (-103), 3) := by decide +kernel
theorem dX9_mixed_202 : decode cX9_mixed 202 = .ok (.iinc 4 1, 3) := by decide +kernel
theorem dX9_mixed_205 : decode cX9_mixed 205 = .ok (.goto (-166), 3) := by decide +kernel
theorem dX9_mixed_208 : decode cX9_mixed 208 = .ok (.aload_n 3, 1) := by decide +kernel
theorem dX9_mixed_209 : decode cX9_mixed 209 = .ok (.iload_n 2, 1) := by decide +kernel
theorem dX9_mixed_210 : decode cX9_mixed 210 = .ok (.iconst 4, 1) := by decide +kernel
theorem dX9_mixed_211 : decode cX9_mixed 211 = .ok (.if_icmp .ne 7, 3) := by decide +kernel
theorem dX9_mixed_214 : decode cX9_mixed 214 = .ok (.iconst 4, 1) := by decide +kernel
theorem dX9_mixed_215 : decode cX9_mixed 215 = .ok (.goto 4, 3) := by decide +kernel
theorem dX9_mixed_218 : decode cX9_mixed 218 = .ok (.iconst 0, 1) := by decide +kernel
theorem dX9_mixed_219 : decode cX9_mixed 219 = .ok (.iaload, 1) := by decide +kernel
theorem dX9_mixed_220 : decode cX9_mixed 220 = .ok (.sipush 9999, 3) := by decide +kernel
theorem dX9_mixed_223 : decode cX9_mixed 223 = .ok (.if_icmp .ne 8, 3) := by decide +kernel
theorem dX9_mixed_226 : decode cX9_mixed 226 = .ok (.bipush (-9), 2) := by decide +kernel
theorem dX9_mixed_228 : decode cX9_mixed 228 = .ok (.goto 6, 3) := by decide +kernel
theorem dX9_mixed_231 : decode cX9_mixed 231 = .ok (.aload_n 3, 1) := by decide +kernel
theorem dX9_mixed_232 : decode cX9_mixed 232 = .ok (.iload_n 2, 1) := by decide +kernel
theorem dX9_mixed_233 : decode cX9_mixed 233 = .ok (.iaload, 1) := by decide +kernel
theorem dX9_mixed_234 : decode cX9_mixed 234 = .ok (.ireturn, 1) := by decide +kernel
theorem dX9_sees_0 : decode cX9_sees 0 = .ok (.iload_n 1, 1) := by decide +kernel
theorem dX9_sees_1 : decode cX9_sees 1 = .ok (.iconst 0, 1) := by decide +kernel
theorem dX9_sees_2 : decode cX9_sees 2 = .ok (.bipush 6, 2) := by decide +kernel
theorem dX9_sees_4 : decode cX9_sees 4 = .ok (.invokestatic 50, 3) := by decide +kernel
theorem dX9_sees_7 : decode cX9_sees 7 = .ok (.ifCond .ne 5, 3) := by decide +kernel
theorem dX9_sees_10 : decode cX9_sees 10 = .ok (.iconst (-1), 1) := by decide +kernel
theorem dX9_sees_11 : decode cX9_sees 11 = .ok (.ireturn, 1) := by decide +kernel
theorem dX9_sees_12 : decode cX9_sees 12 = .ok (.aload_n 0, 1) := by decide +kernel
theorem dX9_sees_13 : decode cX9_sees 13 = .ok (.getfield 95, 3) := by decide +kernel
theorem dX9_sees_16 : decode cX9_sees 16 = .ok (.bipush 6, 2) := by decide +kernel
theorem dX9_sees_18 : decode cX9_sees 18 = .ok (.if_icmp .ne 6, 3) := by decide +kernel
theorem dX9_sees_21 : decode cX9_sees 21 = .ok (.bipush (-3), 2) := by decide +kernel
theorem dX9_sees_23 : decode cX9_sees 23 = .ok (.ireturn, 1) := by decide +kernel
theorem dX9_sees_24 : decode cX9_sees 24 = .ok (.aload_n 0, 1) := by decide +kernel
theorem dX9_sees_25 : decode cX9_sees 25 = .ok (.getfield 16, 3) := by decide +kernel
theorem dX9_sees_28 : decode cX9_sees 28 = .ok (.aload_n 0, 1) := by decide +kernel
theorem dX9_sees_29 : decode cX9_sees 29 = .ok (.getfield 95, 3) := by decide +kernel
theorem dX9_sees_32 : decode cX9_sees 32 = .ok (.iload_n 1, 1) := by decide +kernel
theorem dX9_sees_33 : decode cX9_sees 33 = .ok (.iastore, 1) := by decide +kernel
theorem dX9_sees_34 : decode cX9_sees 34 = .ok (.aload_n 0, 1) := by decide +kernel
theorem dX9_sees_35 : decode cX9_sees 35 = .ok (.dup, 1) := by decide +kernel
theorem dX9_sees_36 : decode cX9_sees 36 = .ok (.getfield 95, 3) := by decide +kernel
theorem dX9_sees_39 : decode cX9_sees 39 = .ok (.iconst 1, 1) := by decide +kernel
theorem dX9_sees_40 : decode cX9_sees 40 = .ok (.iadd, 1) := by decide +kernel
theorem dX9_sees_41 : decode cX9_sees 41 = .ok (.putfield 95, 3) := by decide +kernel
theorem dX9_sees_44 : decode cX9_sees 44 = .ok (.aload_n 0, 1) := by decide +kernel
theorem dX9_sees_45 : decode cX9_sees 45 = .ok (.getfield 95, 3) := by decide +kernel
theorem dX9_sees_48 : decode cX9_sees 48 = .ok (.ireturn, 1) := by decide +kernel
theorem dX9_forget_0 : decode cX9_forget 0 = .ok (.aload_n 0, 1) := by decide +kernel
theorem dX9_forget_1 : decode cX9_forget 1 = .ok (.getfield 95, 3) := by decide +kernel
theorem dX9_forget_4 : decode cX9_forget 4 = .ok (.istore_n 1, 1) := by decide +kernel
theorem dX9_forget_5 : decode cX9_forget 5 = .ok (.aload_n 0, 1) := by decide +kernel
theorem dX9_forget_6 : decode cX9_forget 6 = .ok (.iconst 0, 1) := by decide +kernel
theorem dX9_forget_7 : decode cX9_forget 7 = .ok (.putfield 95, 3) := by decide +kernel
theorem dX9_forget_10 : decode cX9_forget 10 = .ok (.iload_n 1, 1) := by decide +kernel
theorem dX9_forget_11 : decode cX9_forget 11 = .ok (.ireturn, 1) := by decide +kernel
theorem dX9_isSeen_0 : decode cX9_isSeen 0 = .ok (.iconst 1, 1) := by decide +kernel
theorem dX9_isSeen_1 : decode cX9_isSeen 1 = .ok (.istore_n 2, 1) := by decide +kernel
theorem dX9_isSeen_2 : decode cX9_isSeen 2 = .ok (.iconst 0, 1) := by decide +kernel
theorem dX9_isSeen_3 : decode cX9_isSeen 3 = .ok (.istore_n 3, 1) := by decide +kernel
theorem dX9_isSeen_4 : decode cX9_isSeen 4 = .ok (.iload_n 3, 1) := by decide +kernel
theorem dX9_isSeen_5 : decode cX9_isSeen 5 = .ok (.aload_n 0, 1) := by decide +kernel
theorem dX9_isSeen_6 : decode cX9_isSeen 6 = .ok (.getfield 95, 3) := by decide +kernel
theorem dX9_isSeen_9 : decode cX9_isSeen 9 = .ok (.if_icmp .ge 29, 3) := by decide +kernel
theorem dX9_isSeen_12 : decode cX9_isSeen 12 = .ok (.iload_n 2, 1) := by decide +kernel
theorem dX9_isSeen_13 : decode cX9_isSeen 13 = .ok (.ifCond .eq 17, 3) := by decide +kernel
theorem dX9_isSeen_16 : decode cX9_isSeen 16 = .ok (.aload_n 0, 1) := by decide +kernel
theorem dX9_isSeen_17 : decode cX9_isSeen 17 = .ok (.getfield 16, 3) := by decide +kernel
theorem dX9_isSeen_20 : decode cX9_isSeen 20 = .ok (.iload_n 3, 1) := by decide +kernel
theorem dX9_isSeen_21 : decode cX9_isSeen 21 = .ok (.iaload, 1) := by decide +kernel
theorem dX9_isSeen_22 : decode cX9_isSeen 22 = .ok (.iload_n 1, 1) := by decide +kernel
theorem dX9_isSeen_23 : decode cX9_isSeen 23 = .ok (.if_icmp .ne 7, 3) := by decide +kernel
theorem dX9_isSeen_26 : decode cX9_isSeen 26 = .ok (.iconst 1, 1) := by decide +kernel
theorem dX9_isSeen_27 : decode cX9_isSeen 27 = .ok (.goto 4, 3) := by decide +kernel
theorem dX9_isSeen_30 : decode cX9_isSeen 30 = .ok (.iconst 0, 1) := by decide +kernel
theorem dX9_isSeen_31 : decode cX9_isSeen 31 = .ok (.istore_n 2, 1) := by decide +kernel
theorem dX9_isSeen_32 : decode cX9_isSeen 32 = .ok (.iinc 3 1, 3) := by decide +kernel
theorem dX9_isSeen_35 : decode cX9_isSeen 35 = .ok (.goto (-31), 3) := by decide +kernel
theorem dX9_isSeen_38 : decode cX9_isSeen 38 = .ok (.iload_n 2, 1) := by decide +kernel
theorem dX9_isSeen_39 : decode cX9_isSeen 39 = .ok (.ireturn, 1) := by decide +kernel
theorem dX9_unseen_0 : decode cX9_unseen 0 = .ok (.aload_n 0, 1) := by decide +kernel
theorem dX9_unseen_1 : decode cX9_unseen 1 = .ok (.aload_n 0, 1) := by decide +kernel
theorem dX9_unseen_2 : decode cX9_unseen 2 = .ok (.getfield 7, 3) := by decide +kernel
theorem dX9_unseen_5 : decode cX9_unseen 5 = .ok (.bipush 48, 2) := by decide +kernel
