theorem dX8_root_79 : decode cX8_root 79 = .ok (.goto (-41), 3) := by decide +kernel
theorem dX8_root_82 : decode cX8_root 82 = .ok (.iload_n 3, 1) := by decide +kernel
theorem dX8_root_83 : decode cX8_root 83 = .ok (.ireturn, 1) := by decide +kernel
theorem dX8_rank_0 : decode cX8_rank 0 = .ok (.iload_n 1, 1) := by decide +kernel
theorem dX8_rank_1 : decode cX8_rank 1 = .ok (.ifCond .ge 5, 3) := by decide +kernel
theorem dX8_rank_4 : decode cX8_rank 4 = .ok (.iconst (-1), 1) := by decide +kernel
theorem dX8_rank_5 : decode cX8_rank 5 = .ok (.ireturn, 1) := by decide +kernel
theorem dX8_rank_6 : decode cX8_rank 6 = .ok (.iload_n 1, 1) := by decide +kernel
theorem dX8_rank_7 : decode cX8_rank 7 = .ok (.aload_n 0, 1) := by decide +kernel
theorem dX8_rank_8 : decode cX8_rank 8 = .ok (.getfield 19, 3) := by decide +kernel
theorem dX8_rank_11 : decode cX8_rank 11 = .ok (.getfield 113, 3) := by decide +kernel
theorem dX8_rank_14 : decode cX8_rank 14 = .ok (.invokestatic 182, 3) := by decide +kernel
theorem dX8_rank_17 : decode cX8_rank 17 = .ok (.if_icmp .lt 6, 3) := by decide +kernel
theorem dX8_rank_20 : decode cX8_rank 20 = .ok (.bipush (-9), 2) := by decide +kernel
theorem dX8_rank_22 : decode cX8_rank 22 = .ok (.ireturn, 1) := by decide +kernel
theorem dX8_rank_23 : decode cX8_rank 23 = .ok (.aload_n 0, 1) := by decide +kernel
theorem dX8_rank_24 : decode cX8_rank 24 = .ok (.invokevirtual 142, 3) := by decide +kernel
theorem dX8_rank_27 : decode cX8_rank 27 = .ok (.iload_n 1, 1) := by decide +kernel
theorem dX8_rank_28 : decode cX8_rank 28 = .ok (.istore_n 2, 1) := by decide +kernel
theorem dX8_rank_29 : decode cX8_rank 29 = .ok (.iconst 0, 1) := by decide +kernel
theorem dX8_rank_30 : decode cX8_rank 30 = .ok (.istore_n 3, 1) := by decide +kernel
theorem dX8_rank_31 : decode cX8_rank 31 = .ok (.iload_n 3, 1) := by decide +kernel
theorem dX8_rank_32 : decode cX8_rank 32 = .ok (.bipush 48, 2) := by decide +kernel
theorem dX8_rank_34 : decode cX8_rank 34 = .ok (.if_icmp .gt 37, 3) := by decide +kernel
theorem dX8_rank_37 : decode cX8_rank 37 = .ok (.aload_n 0, 1) := by decide +kernel
theorem dX8_rank_38 : decode cX8_rank 38 = .ok (.getfield 72, 3) := by decide +kernel
theorem dX8_rank_41 : decode cX8_rank 41 = .ok (.iload_n 3, 1) := by decide +kernel
theorem dX8_rank_42 : decode cX8_rank 42 = .ok (.invokevirtual 152, 3) := by decide +kernel
theorem dX8_rank_45 : decode cX8_rank 45 = .ok (.istore 4, 2) := by decide +kernel
theorem dX8_rank_47 : decode cX8_rank 47 = .ok (.iload_n 2, 1) := by decide +kernel
theorem dX8_rank_48 : decode cX8_rank 48 = .ok (.iload 4, 2) := by decide +kernel
theorem dX8_rank_50 : decode cX8_rank 50 = .ok (.if_icmp .ge 10, 3) := by decide +kernel
theorem dX8_rank_53 : decode cX8_rank 53 = .ok (.aload_n 0, 1) := by decide +kernel
theorem dX8_rank_54 : decode cX8_rank 54 = .ok (.iload_n 3, 1) := by decide +kernel
theorem dX8_rank_55 : decode cX8_rank 55 = .ok (.iload_n 2, 1) := by decide +kernel
theorem dX8_rank_56 : decode cX8_rank 56 = .ok (.invokevirtual 185, 3) := by decide +kernel
theorem dX8_rank_59 : decode cX8_rank 59 = .ok (.ireturn, 1) := by decide +kernel
theorem dX8_rank_60 : decode cX8_rank 60 = .ok (.iload_n 2, 1) := by decide +kernel
theorem dX8_rank_61 : decode cX8_rank 61 = .ok (.iload 4, 2) := by decide +kernel
theorem dX8_rank_63 : decode cX8_rank 63 = .ok (.isub, 1) := by decide +kernel
theorem dX8_rank_64 : decode cX8_rank 64 = .ok (.istore_n 2, 1) := by decide +kernel
theorem dX8_rank_65 : decode cX8_rank 65 = .ok (.iinc 3 1, 3) := by decide +kernel
theorem dX8_rank_68 : decode cX8_rank 68 = .ok (.goto (-37), 3) := by decide +kernel
theorem dX8_rank_71 : decode cX8_rank 71 = .ok (.bipush (-9), 2) := by decide +kernel
theorem dX8_rank_73 : decode cX8_rank 73 = .ok (.ireturn, 1) := by decide +kernel
theorem dX8_best_0 : decode cX8_best 0 = .ok (.iload_n 1, 1) := by decide +kernel
theorem dX8_best_1 : decode cX8_best 1 = .ok (.ifCond .lt 8, 3) := by decide +kernel
theorem dX8_best_4 : decode cX8_best 4 = .ok (.iload_n 1, 1) := by decide +kernel
theorem dX8_best_5 : decode cX8_best 5 = .ok (.iconst 3, 1) := by decide +kernel
theorem dX8_best_6 : decode cX8_best 6 = .ok (.if_icmp .le 5, 3) := by decide +kernel
theorem dX8_best_9 : decode cX8_best 9 = .ok (.iconst (-1), 1) := by decide +kernel
theorem dX8_best_10 : decode cX8_best 10 = .ok (.ireturn, 1) := by decide +kernel
theorem dX8_best_11 : decode cX8_best 11 = .ok (.iload_n 1, 1) := by decide +kernel
theorem dX8_best_12 : decode cX8_best 12 = .ok (.iconst 2, 1) := by decide +kernel
theorem dX8_best_13 : decode cX8_best 13 = .ok (.if_icmp .ne 8, 3) := by decide +kernel
theorem dX8_best_16 : decode cX8_best 16 = .ok (.aload_n 0, 1) := by decide +kernel
theorem dX8_best_17 : decode cX8_best 17 = .ok (.invokevirtual 188, 3) := by decide +kernel
theorem dX8_best_20 : decode cX8_best 20 = .ok (.ireturn, 1) := by decide +kernel
theorem dX8_best_21 : decode cX8_best 21 = .ok (.aload_n 0, 1) := by decide +kernel
theorem dX8_best_22 : decode cX8_best 22 = .ok (.invokevirtual 142, 3) := by decide +kernel
theorem dX8_best_25 : decode cX8_best 25 = .ok (.aload_n 0, 1) := by decide +kernel
theorem dX8_best_26 : decode cX8_best 26 = .ok (.invokevirtual 191, 3) := by decide +kernel
theorem dX8_best_29 : decode cX8_best 29 = .ok (.istore_n 2, 1) := by decide +kernel
theorem dX8_best_30 : decode cX8_best 30 = .ok (.iload_n 1, 1) := by decide +kernel
theorem dX8_best_31 : decode cX8_best 31 = .ok (.ifCond .ne 5, 3) := by decide +kernel
theorem dX8_best_34 : decode cX8_best 34 = .ok (.iload_n 2, 1) := by decide +kernel
theorem dX8_best_35 : decode cX8_best 35 = .ok (.ireturn, 1) := by decide +kernel
theorem dX8_best_36 : decode cX8_best 36 = .ok (.iload_n 1, 1) := by decide +kernel
theorem dX8_best_37 : decode cX8_best 37 = .ok (.iconst 1, 1) := by decide +kernel
theorem dX8_best_38 : decode cX8_best 38 = .ok (.if_icmp .ne 12, 3) := by decide +kernel
theorem dX8_best_41 : decode cX8_best 41 = .ok (.aload_n 0, 1) := by decide +kernel
theorem dX8_best_42 : decode cX8_best 42 = .ok (.getfield 72, 3) := by decide +kernel
theorem dX8_best_45 : decode cX8_best 45 = .ok (.iload_n 2, 1) := by decide +kernel
theorem dX8_best_46 : decode cX8_best 46 = .ok (.invokevirtual 152, 3) := by decide +kernel
theorem dX8_best_49 : decode cX8_best 49 = .ok (.ireturn, 1) := by decide +kernel
theorem dX8_best_50 : decode cX8_best 50 = .ok (.aload_n 0, 1) := by decide +kernel
theorem dX8_best_51 : decode cX8_best 51 = .ok (.invokevirtual 188, 3) := by decide +kernel
theorem dX8_best_54 : decode cX8_best 54 = .ok (.iload_n 2, 1) := by decide +kernel
theorem dX8_best_55 : decode cX8_best 55 = .ok (.if_icmp .ne 7, 3) := by decide +kernel
theorem dX8_best_58 : decode cX8_best 58 = .ok (.iconst 1, 1) := by decide +kernel
theorem dX8_best_59 : decode cX8_best 59 = .ok (.goto 4, 3) := by decide +kernel
theorem dX8_best_62 : decode cX8_best 62 = .ok (.iconst 0, 1) := by decide +kernel
theorem dX8_best_63 : decode cX8_best 63 = .ok (.ireturn, 1) := by decide +kernel
theorem dX8_fitting_0 : decode cX8_fitting 0 = .ok (.aload_n 0, 1) := by decide +kernel
theorem dX8_fitting_1 : decode cX8_fitting 1 = .ok (.getfield 19, 3) := by decide +kernel
theorem dX8_fitting_4 : decode cX8_fitting 4 = .ok (.iload_n 1, 1) := by decide +kernel
theorem dX8_fitting_5 : decode cX8_fitting 5 = .ok (.iload_n 2, 1) := by decide +kernel
theorem dX8_fitting_6 : decode cX8_fitting 6 = .ok (.invokevirtual 116, 3) := by decide +kernel
theorem dX8_fitting_9 : decode cX8_fitting 9 = .ok (.ifCond .ne 5, 3) := by decide +kernel
theorem dX8_fitting_12 : decode cX8_fitting 12 = .ok (.iconst (-1), 1) := by decide +kernel
theorem dX8_fitting_13 : decode cX8_fitting 13 = .ok (.ireturn, 1) := by decide +kernel
theorem dX8_fitting_14 : decode cX8_fitting 14 = .ok (.aload_n 0, 1) := by decide +kernel
theorem dX8_fitting_15 : decode cX8_fitting 15 = .ok (.getfield 19, 3) := by decide +kernel
theorem dX8_fitting_18 : decode cX8_fitting 18 = .ok (.iload_n 1, 1) := by decide +kernel
theorem dX8_fitting_19 : decode cX8_fitting 19 = .ok (.iload_n 2, 1) := by decide +kernel
theorem dX8_fitting_20 : decode cX8_fitting 20 = .ok (.invokevirtual 120, 3) := by decide +kernel
theorem dX8_fitting_23 : decode cX8_fitting 23 = .ok (.iconst 4, 1) := by decide +kernel
theorem dX8_fitting_24 : decode cX8_fitting 24 = .ok (.if_icmp .eq 6, 3) := by decide +kernel
theorem dX8_fitting_27 : decode cX8_fitting 27 = .ok (.bipush (-9), 2) := by decide +kernel
theorem dX8_fitting_29 : decode cX8_fitting 29 = .ok (.ireturn, 1) := by decide +kernel
theorem dX8_fitting_30 : decode cX8_fitting 30 = .ok (.aload_n 0, 1) := by decide +kernel
theorem dX8_fitting_31 : decode cX8_fitting 31 = .ok (.iload_n 2, 1) := by decide +kernel
theorem dX8_fitting_32 : decode cX8_fitting 32 = .ok (.invokevirtual 164, 3) := by decide +kernel
theorem dX8_fitting_35 : decode cX8_fitting 35 = .ok (.aload_n 0, 1) := by decide +kernel
theorem dX8_fitting_36 : decode cX8_fitting 36 = .ok (.aload_n 0, 1) := by decide +kernel
theorem dX8_fitting_37 : decode cX8_fitting 37 = .ok (.getfield 97, 3) := by decide +kernel
theorem dX8_fitting_40 : decode cX8_fitting 40 = .ok (.invokevirtual 167, 3) := by decide +kernel
theorem dX8_fitting_43 : decode cX8_fitting 43 = .ok (.istore_n 3, 1) := by decide +kernel
theorem dX8_fitting_44 : decode cX8_fitting 44 = .ok (.iconst 0, 1) := by decide +kernel
theorem dX8_fitting_45 : decode cX8_fitting 45 = .ok (.istore 4, 2) := by decide +kernel
theorem dX8_fitting_47 : decode cX8_fitting 47 = .ok (.iconst 0, 1) := by decide +kernel
theorem dX8_fitting_48 : decode cX8_fitting 48 = .ok (.istore 5, 2) := by decide +kernel
theorem dX8_fitting_50 : decode cX8_fitting 50 = .ok (.iload 5, 2) := by decide +kernel
theorem dX8_fitting_52 : decode cX8_fitting 52 = .ok (.iconst 4, 1) := by decide +kernel
theorem dX8_fitting_53 : decode cX8_fitting 53 = .ok (.if_icmp .ge 30, 3) := by decide +kernel
theorem dX8_fitting_56 : decode cX8_fitting 56 = .ok (.aload_n 0, 1) := by decide +kernel
theorem dX8_fitting_57 : decode cX8_fitting 57 = .ok (.iload_n 1, 1) := by decide +kernel
theorem dX8_fitting_58 : decode cX8_fitting 58 = .ok (.iload_n 2, 1) := by decide +kernel
theorem dX8_fitting_59 : decode cX8_fitting 59 = .ok (.iload 5, 2) := by decide +kernel
theorem dX8_fitting_61 : decode cX8_fitting 61 = .ok (.invokevirtual 194, 3) := by decide +kernel
theorem dX8_fitting_64 : decode cX8_fitting 64 = .ok (.iload_n 3, 1) := by decide +kernel
theorem dX8_fitting_65 : decode cX8_fitting 65 = .ok (.if_icmp .gt 12, 3) := by decide +kernel
theorem dX8_fitting_68 : decode cX8_fitting 68 = .ok (.iload 4, 2) := by decide +kernel
theorem dX8_fitting_70 : decode cX8_fitting 70 = .ok (.iconst 1, 1) := by decide +kernel
theorem dX8_fitting_71 : decode cX8_fitting 71 = .ok (.iload 5, 2) := by decide +kernel
theorem dX8_fitting_73 : decode cX8_fitting 73 = .ok (.ishl, 1) := by decide +kernel
theorem dX8_fitting_74 : decode cX8_fitting 74 = .ok (.ior, 1) := by decide +kernel
theorem dX8_fitting_75 : decode cX8_fitting 75 = .ok (.istore 4, 2) := by decide +kernel
theorem dX8_fitting_77 : decode cX8_fitting 77 = .ok (.iinc 5 1, 3) := by decide +kernel
theorem dX8_fitting_80 : decode cX8_fitting 80 = .ok (.goto (-30), 3) := by decide +kernel
theorem dX8_fitting_83 : decode cX8_fitting 83 = .ok (.iload 4, 2) := by decide +kernel
theorem dX8_fitting_85 : decode cX8_fitting 85 = .ok (.ireturn, 1) := by decide +kernel
theorem dX8_quarrel_0 : decode cX8_quarrel 0 = .ok (.aload_n 0, 1) := by decide +kernel
theorem dX8_quarrel_1 : decode cX8_quarrel 1 = .ok (.getfield 19, 3) := by decide +kernel
theorem dX8_quarrel_4 : decode cX8_quarrel 4 = .ok (.iload_n 1, 1) := by decide +kernel
theorem dX8_quarrel_5 : decode cX8_quarrel 5 = .ok (.invokevirtual 161, 3) := by decide +kernel
theorem dX8_quarrel_8 : decode cX8_quarrel 8 = .ok (.ifCond .eq 19, 3) := by decide +kernel
theorem dX8_quarrel_11 : decode cX8_quarrel 11 = .ok (.aload_n 0, 1) := by decide +kernel
theorem dX8_quarrel_12 : decode cX8_quarrel 12 = .ok (.getfield 19, 3) := by decide +kernel
theorem dX8_quarrel_15 : decode cX8_quarrel 15 = .ok (.iload_n 2, 1) := by decide +kernel
theorem dX8_quarrel_16 : decode cX8_quarrel 16 = .ok (.invokevirtual 161, 3) := by decide +kernel
theorem dX8_quarrel_19 : decode cX8_quarrel 19 = .ok (.ifCond .eq 8, 3) := by decide +kernel
theorem dX8_quarrel_22 : decode cX8_quarrel 22 = .ok (.iload_n 1, 1) := by decide +kernel
theorem dX8_quarrel_23 : decode cX8_quarrel 23 = .ok (.iload_n 2, 1) := by decide +kernel
theorem dX8_quarrel_24 : decode cX8_quarrel 24 = .ok (.if_icmp .ne 5, 3) := by decide +kernel
theorem dX8_quarrel_27 : decode cX8_quarrel 27 = .ok (.iconst (-1), 1) := by decide +kernel
theorem dX8_quarrel_28 : decode cX8_quarrel 28 = .ok (.ireturn, 1) := by decide +kernel
theorem dX8_quarrel_29 : decode cX8_quarrel 29 = .ok (.aload_n 0, 1) := by decide +kernel
theorem dX8_quarrel_30 : decode cX8_quarrel 30 = .ok (.iload_n 1, 1) := by decide +kernel
theorem dX8_quarrel_31 : decode cX8_quarrel 31 = .ok (.iload_n 2, 1) := by decide +kernel
theorem dX8_quarrel_32 : decode cX8_quarrel 32 = .ok (.invokevirtual 198, 3) := by decide +kernel
theorem dX8_quarrel_35 : decode cX8_quarrel 35 = .ok (.ifCond .eq 7, 3) := by decide +kernel
theorem dX8_quarrel_38 : decode cX8_quarrel 38 = .ok (.iconst 1, 1) := by decide +kernel
theorem dX8_quarrel_39 : decode cX8_quarrel 39 = .ok (.goto 4, 3) := by decide +kernel
theorem dX8_quarrel_42 : decode cX8_quarrel 42 = .ok (.iconst 0, 1) := by decide +kernel
theorem dX8_quarrel_43 : decode cX8_quarrel 43 = .ok (.ireturn, 1) := by decide +kernel
theorem dX8_shared_0 : decode cX8_shared 0 = .ok (.aload_n 0, 1) := by decide +kernel
theorem dX8_shared_1 : decode cX8_shared 1 = .ok (.getfield 19, 3) := by decide +kernel
theorem dX8_shared_4 : decode cX8_shared 4 = .ok (.iload_n 2, 1) := by decide +kernel
theorem dX8_shared_5 : decode cX8_shared 5 = .ok (.iload_n 1, 1) := by decide +kernel
theorem dX8_shared_6 : decode cX8_shared 6 = .ok (.invokevirtual 116, 3) := by decide +kernel
theorem dX8_shared_9 : decode cX8_shared 9 = .ok (.ifCond .ne 5, 3) := by decide +kernel
theorem dX8_shared_12 : decode cX8_shared 12 = .ok (.iconst (-1), 1) := by decide +kernel
theorem dX8_shared_13 : decode cX8_shared 13 = .ok (.ireturn, 1) := by decide +kernel
theorem dX8_shared_14 : decode cX8_shared 14 = .ok (.aload_n 0, 1) := by decide +kernel
theorem dX8_shared_15 : decode cX8_shared 15 = .ok (.getfield 19, 3) := by decide +kernel
theorem dX8_shared_18 : decode cX8_shared 18 = .ok (.iload_n 2, 1) := by decide +kernel
theorem dX8_shared_19 : decode cX8_shared 19 = .ok (.iload_n 1, 1) := by decide +kernel
theorem dX8_shared_20 : decode cX8_shared 20 = .ok (.invokevirtual 120, 3) := by decide +kernel
theorem dX8_shared_23 : decode cX8_shared 23 = .ok (.istore_n 3, 1) := by decide +kernel
theorem dX8_shared_24 : decode cX8_shared 24 = .ok (.iload_n 3, 1) := by decide +kernel
theorem dX8_shared_25 : decode cX8_shared 25 = .ok (.iconst 4, 1) := by decide +kernel
theorem dX8_shared_26 : decode cX8_shared 26 = .ok (.if_icmp .ne 5, 3) := by decide +kernel
theorem dX8_shared_29 : decode cX8_shared 29 = .ok (.iconst 0, 1) := by decide +kernel
theorem dX8_shared_30 : decode cX8_shared 30 = .ok (.ireturn, 1) := by decide +kernel
theorem dX8_shared_31 : decode cX8_shared 31 = .ok (.iconst 0, 1) := by decide +kernel
theorem dX8_shared_32 : decode cX8_shared 32 = .ok (.istore 4, 2) := by decide +kernel
theorem dX8_shared_34 : decode cX8_shared 34 = .ok (.iconst 0, 1) := by decide +kernel
theorem dX8_shared_35 : decode cX8_shared 35 = .ok (.istore 5, 2) := by decide +kernel
theorem dX8_shared_37 : decode cX8_shared 37 = .ok (.iload 5, 2) := by decide +kernel
theorem dX8_shared_39 : decode cX8_shared 39 = .ok (.aload_n 0, 1) := by decide +kernel
theorem dX8_shared_40 : decode cX8_shared 40 = .ok (.getfield 19, 3) := by decide +kernel
theorem dX8_shared_43 : decode cX8_shared 43 = .ok (.getfield 113, 3) := by decide +kernel
theorem dX8_shared_46 : decode cX8_shared 46 = .ok (.if_icmp .ge 32, 3) := by decide +kernel
theorem dX8_shared_49 : decode cX8_shared 49 = .ok (.aload_n 0, 1) := by decide +kernel
theorem dX8_shared_50 : decode cX8_shared 50 = .ok (.getfield 19, 3) := by decide +kernel
theorem dX8_shared_53 : decode cX8_shared 53 = .ok (.iload 5, 2) := by decide +kernel
theorem dX8_shared_55 : decode cX8_shared 55 = .ok (.iload_n 1, 1) := by decide +kernel
theorem dX8_shared_56 : decode cX8_shared 56 = .ok (.invokevirtual 120, 3) := by decide +kernel
theorem dX8_shared_59 : decode cX8_shared 59 = .ok (.iload_n 3, 1) := by decide +kernel
theorem dX8_shared_60 : decode cX8_shared 60 = .ok (.if_icmp .ne 12, 3) := by decide +kernel
theorem dX8_shared_63 : decode cX8_shared 63 = .ok (.iload 4, 2) := by decide +kernel
theorem dX8_shared_65 : decode cX8_shared 65 = .ok (.iconst 1, 1) := by decide +kernel
theorem dX8_shared_66 : decode cX8_shared 66 = .ok (.iload 5, 2) := by decide +kernel
theorem dX8_shared_68 : decode cX8_shared 68 = .ok (.ishl, 1) := by decide +kernel
theorem dX8_shared_69 : decode cX8_shared 69 = .ok (.ior, 1) := by decide +kernel
theorem dX8_shared_70 : decode cX8_shared 70 = .ok (.istore 4, 2) := by decide +kernel
theorem dX8_shared_72 : decode cX8_shared 72 = .ok (.iinc 5 1, 3) := by decide +kernel
theorem dX8_shared_75 : decode cX8_shared 75 = .ok (.goto (-38), 3) := by decide +kernel
theorem dX8_shared_78 : decode cX8_shared 78 = .ok (.iload 4, 2) := by decide +kernel
theorem dX8_shared_80 : decode cX8_shared 80 = .ok (.ireturn, 1) := by decide +kernel
theorem dX8_mixed_0 : decode cX8_mixed 0 = .ok (.aload_n 0, 1) := by decide +kernel
theorem dX8_mixed_1 : decode cX8_mixed 1 = .ok (.getfield 19, 3) := by decide +kernel
theorem dX8_mixed_4 : decode cX8_mixed 4 = .ok (.iload_n 1, 1) := by decide +kernel
theorem dX8_mixed_5 : decode cX8_mixed 5 = .ok (.invokevirtual 201, 3) := by decide +kernel
theorem dX8_mixed_8 : decode cX8_mixed 8 = .ok (.ifCond .eq 12, 3) := by decide +kernel
theorem dX8_mixed_11 : decode cX8_mixed 11 = .ok (.iload_n 2, 1) := by decide +kernel
theorem dX8_mixed_12 : decode cX8_mixed 12 = .ok (.ifCond .lt 8, 3) := by decide +kernel
theorem dX8_mixed_15 : decode cX8_mixed 15 = .ok (.iload_n 2, 1) := by decide +kernel
theorem dX8_mixed_16 : decode cX8_mixed 16 = .ok (.iconst 4, 1) := by decide +kernel
theorem dX8_mixed_17 : decode cX8_mixed 17 = .ok (.if_icmp .le 5, 3) := by decide +kernel
theorem dX8_mixed_20 : decode cX8_mixed 20 = .ok (.iconst (-1), 1) := by decide +kernel
theorem dX8_mixed_21 : decode cX8_mixed 21 = .ok (.ireturn, 1) := by decide +kernel
theorem dX8_mixed_22 : decode cX8_mixed 22 = .ok (.aload_n 0, 1) := by decide +kernel
theorem dX8_mixed_23 : decode cX8_mixed 23 = .ok (.getfield 19, 3) := by decide +kernel
theorem dX8_mixed_26 : decode cX8_mixed 26 = .ok (.getfield 113, 3) := by decide +kernel
theorem dX8_mixed_29 : decode cX8_mixed 29 = .ok (.iconst 2, 1) := by decide +kernel
theorem dX8_mixed_30 : decode cX8_mixed 30 = .ok (.if_icmp .ge 6, 3) := by decide +kernel
theorem dX8_mixed_33 : decode cX8_mixed 33 = .ok (.bipush (-9), 2) := by decide +kernel
theorem dX8_mixed_35 : decode cX8_mixed 35 = .ok (.ireturn, 1) := by decide +kernel
theorem dX8_mixed_36 : decode cX8_mixed 36 = .ok (.aload_n 0, 1) := by decide +kernel
theorem dX8_mixed_37 : decode cX8_mixed 37 = .ok (.getfield 78, 3) := by decide +kernel
theorem dX8_mixed_40 : decode cX8_mixed 40 = .ok (.aload_n 0, 1) := by decide +kernel
theorem dX8_mixed_41 : decode cX8_mixed 41 = .ok (.getfield 19, 3) := by decide +kernel
theorem dX8_mixed_44 : decode cX8_mixed 44 = .ok (.iload_n 1, 1) := by decide +kernel
theorem dX8_mixed_45 : decode cX8_mixed 45 = .ok (.invokevirtual 204, 3) := by decide +kernel
theorem dX8_mixed_48 : decode cX8_mixed 48 = .ok (.iload_n 2, 1) := by decide +kernel
theorem dX8_mixed_49 : decode cX8_mixed 49 = .ok (.iconst 4, 1) := by decide +kernel
theorem dX8_mixed_50 : decode cX8_mixed 50 = .ok (.if_icmp .ne 16, 3) := by decide +kernel
theorem dX8_mixed_53 : decode cX8_mixed 53 = .ok (.aload_n 0, 1) := by decide +kernel
theorem dX8_mixed_54 : decode cX8_mixed 54 = .ok (.getfield 78, 3) := by decide +kernel
theorem dX8_mixed_57 : decode cX8_mixed 57 = .ok (.aload_n 0, 1) := by decide +kernel
theorem dX8_mixed_58 : decode cX8_mixed 58 = .ok (.getfield 19, 3) := by decide +kernel
theorem dX8_mixed_61 : decode cX8_mixed 61 = .ok (.iload_n 1, 1) := by decide +kernel
theorem dX8_mixed_62 : decode cX8_mixed 62 = .ok (.invokevirtual 208, 3) := by decide +kernel
theorem dX8_mixed_65 : decode cX8_mixed 65 = .ok (.ireturn, 1) := by decide +kernel
theorem dX8_mixed_66 : decode cX8_mixed 66 = .ok (.aload_n 0, 1) := by decide +kernel
theorem dX8_mixed_67 : decode cX8_mixed 67 = .ok (.getfield 19, 3) := by decide +kernel
theorem dX8_mixed_70 : decode cX8_mixed 70 = .ok (.getfield 113, 3) := by decide +kernel
theorem dX8_mixed_73 : decode cX8_mixed 73 = .ok (.iconst 3, 1) := by decide +kernel
theorem dX8_mixed_74 : decode cX8_mixed 74 = .ok (.if_icmp .lt 14, 3) := by decide +kernel
theorem dX8_mixed_77 : decode cX8_mixed 77 = .ok (.aload_n 0, 1) := by decide +kernel
theorem dX8_mixed_78 : decode cX8_mixed 78 = .ok (.getfield 19, 3) := by decide +kernel
theorem dX8_mixed_81 : decode cX8_mixed 81 = .ok (.getfield 212, 3) := by decide +kernel
theorem dX8_mixed_84 : decode cX8_mixed 84 = .ok (.iconst 2, 1) := by decide +kernel
theorem dX8_mixed_85 : decode cX8_mixed 85 = .ok (.if_icmp .ge 6, 3) := by decide +kernel
theorem dX8_mixed_88 : decode cX8_mixed 88 = .ok (.bipush (-9), 2) := by decide +kernel
theorem dX8_mixed_90 : decode cX8_mixed 90 = .ok (.ireturn, 1) := by decide +kernel
theorem dX8_mixed_91 : decode cX8_mixed 91 = .ok (.aload_n 0, 1) := by decide +kernel
theorem dX8_mixed_92 : decode cX8_mixed 92 = .ok (.getfield 78, 3) := by decide +kernel
theorem dX8_mixed_95 : decode cX8_mixed 95 = .ok (.aload_n 0, 1) := by decide +kernel
theorem dX8_mixed_96 : decode cX8_mixed 96 = .ok (.getfield 19, 3) := by decide +kernel
theorem dX8_mixed_99 : decode cX8_mixed 99 = .ok (.iload_n 1, 1) := by decide +kernel
theorem dX8_mixed_100 : decode cX8_mixed 100 = .ok (.invokevirtual 215, 3) := by decide +kernel
theorem dX8_mixed_103 : decode cX8_mixed 103 = .ok (.iload_n 2, 1) := by decide +kernel
theorem dX8_mixed_104 : decode cX8_mixed 104 = .ok (.tableswitch 52 0 2 #[28, 36, 44], 28) := by decide +kernel
theorem dX8_mixed_132 : decode cX8_mixed 132 = .ok (.aload_n 0, 1) := by decide +kernel
theorem dX8_mixed_133 : decode cX8_mixed 133 = .ok (.getfield 78, 3) := by decide +kernel
theorem dX8_mixed_136 : decode cX8_mixed 136 = .ok (.getfield 218, 3) := by decide +kernel
theorem dX8_mixed_139 : decode cX8_mixed 139 = .ok (.ireturn, 1) := by decide +kernel
theorem dX8_mixed_140 : decode cX8_mixed 140 = .ok (.aload_n 0, 1) := by decide +kernel
theorem dX8_mixed_141 : decode cX8_mixed 141 = .ok (.getfield 78, 3) := by decide +kernel
theorem dX8_mixed_144 : decode cX8_mixed 144 = .ok (.getfield 221, 3) := by decide +kernel
theorem dX8_mixed_147 : decode cX8_mixed 147 = .ok (.ireturn, 1) := by decide +kernel
theorem dX8_mixed_148 : decode cX8_mixed 148 = .ok (.aload_n 0, 1) := by decide +kernel
theorem dX8_mixed_149 : decode cX8_mixed 149 = .ok (.getfield 78, 3) := by decide +kernel
theorem dX8_mixed_152 : decode cX8_mixed 152 = .ok (.getfield 224, 3) := by decide +kernel
theorem dX8_mixed_155 : decode cX8_mixed 155 = .ok (.ireturn, 1) := by decide +kernel
theorem dX8_mixed_156 : decode cX8_mixed 156 = .ok (.aload_n 0, 1) := by decide +kernel
theorem dX8_mixed_157 : decode cX8_mixed 157 = .ok (.getfield 78, 3) := by decide +kernel
theorem dX8_mixed_160 : decode cX8_mixed 160 = .ok (.getfield 227, 3) := by decide +kernel
theorem dX8_mixed_163 : decode cX8_mixed 163 = .ok (.ireturn, 1) := by decide +kernel
theorem dX8_sees_0 : decode cX8_sees 0 = .ok (.iload_n 1, 1) := by decide +kernel
theorem dX8_sees_1 : decode cX8_sees 1 = .ok (.ifCond .lt 9, 3) := by decide +kernel
theorem dX8_sees_4 : decode cX8_sees 4 = .ok (.iload_n 1, 1) := by decide +kernel
theorem dX8_sees_5 : decode cX8_sees 5 = .ok (.bipush 6, 2) := by decide +kernel
theorem dX8_sees_7 : decode cX8_sees 7 = .ok (.if_icmp .le 5, 3) := by decide +kernel
theorem dX8_sees_10 : decode cX8_sees 10 = .ok (.iconst (-1), 1) := by decide +kernel
theorem dX8_sees_11 : decode cX8_sees 11 = .ok (.ireturn, 1) := by decide +kernel
theorem dX8_sees_12 : decode cX8_sees 12 = .ok (.aload_n 0, 1) := by decide +kernel
theorem dX8_sees_13 : decode cX8_sees 13 = .ok (.getfield 103, 3) := by decide +kernel
theorem dX8_sees_16 : decode cX8_sees 16 = .ok (.bipush 6, 2) := by decide +kernel
theorem dX8_sees_18 : decode cX8_sees 18 = .ok (.if_icmp .lt 6, 3) := by decide +kernel
theorem dX8_sees_21 : decode cX8_sees 21 = .ok (.bipush (-3), 2) := by decide +kernel
theorem dX8_sees_23 : decode cX8_sees 23 = .ok (.ireturn, 1) := by decide +kernel
theorem dX8_sees_24 : decode cX8_sees 24 = .ok (.aload_n 0, 1) := by decide +kernel
theorem dX8_sees_25 : decode cX8_sees 25 = .ok (.getfield 48, 3) := by decide +kernel
theorem dX8_sees_28 : decode cX8_sees 28 = .ok (.aload_n 0, 1) := by decide +kernel
theorem dX8_sees_29 : decode cX8_sees 29 = .ok (.getfield 103, 3) := by decide +kernel
theorem dX8_sees_32 : decode cX8_sees 32 = .ok (.iload_n 1, 1) := by decide +kernel
theorem dX8_sees_33 : decode cX8_sees 33 = .ok (.invokevirtual 159, 3) := by decide +kernel
theorem dX8_sees_36 : decode cX8_sees 36 = .ok (.aload_n 0, 1) := by decide +kernel
theorem dX8_sees_37 : decode cX8_sees 37 = .ok (.dup, 1) := by decide +kernel
theorem dX8_sees_38 : decode cX8_sees 38 = .ok (.getfield 103, 3) := by decide +kernel
theorem dX8_sees_41 : decode cX8_sees 41 = .ok (.iconst 1, 1) := by decide +kernel
theorem dX8_sees_42 : decode cX8_sees 42 = .ok (.iadd, 1) := by decide +kernel
theorem dX8_sees_43 : decode cX8_sees 43 = .ok (.putfield 103, 3) := by decide +kernel
theorem dX8_sees_46 : decode cX8_sees 46 = .ok (.aload_n 0, 1) := by decide +kernel
theorem dX8_sees_47 : decode cX8_sees 47 = .ok (.getfield 103, 3) := by decide +kernel
theorem dX8_sees_50 : decode cX8_sees 50 = .ok (.ireturn, 1) := by decide +kernel
theorem dX8_forget_0 : decode cX8_forget 0 = .ok (.aload_n 0, 1) := by decide +kernel
theorem dX8_forget_1 : decode cX8_forget 1 = .ok (.getfield 103, 3) := by decide +kernel
theorem dX8_forget_4 : decode cX8_forget 4 = .ok (.istore_n 1, 1) := by decide +kernel
theorem dX8_forget_5 : decode cX8_forget 5 = .ok (.aload_n 0, 1) := by decide +kernel
theorem dX8_forget_6 : decode cX8_forget 6 = .ok (.iconst 0, 1) := by decide +kernel
theorem dX8_forget_7 : decode cX8_forget 7 = .ok (.putfield 103, 3) := by decide +kernel
theorem dX8_forget_10 : decode cX8_forget 10 = .ok (.iload_n 1, 1) := by decide +kernel
theorem dX8_forget_11 : decode cX8_forget 11 = .ok (.ireturn, 1) := by decide +kernel
theorem dX8_unseen_0 : decode cX8_unseen 0 = .ok (.aload_n 0, 1) := by decide +kernel
theorem dX8_unseen_1 : decode cX8_unseen 1 = .ok (.iconst 0, 1) := by decide +kernel
theorem dX8_unseen_2 : decode cX8_unseen 2 = .ok (.invokevirtual 164, 3) := by decide +kernel
theorem dX8_unseen_5 : decode cX8_unseen 5 = .ok (.aload_n 0, 1) := by decide +kernel
theorem dX8_unseen_6 : decode cX8_unseen 6 = .ok (.getfield 55, 3) := by decide +kernel
theorem dX8_unseen_9 : decode cX8_unseen 9 = .ok (.aload_n 0, 1) := by decide +kernel
theorem dX8_unseen_10 : decode cX8_unseen 10 = .ok (.getfield 97, 3) := by decide +kernel
theorem dX8_unseen_13 : decode cX8_unseen 13 = .ok (.aload_n 0, 1) := by decide +kernel
theorem dX8_unseen_14 : decode cX8_unseen 14 = .ok (.getfield 19, 3) := by decide +kernel
theorem dX8_unseen_17 : decode cX8_unseen 17 = .ok (.getfield 113, 3) := by decide +kernel
theorem dX8_unseen_20 : decode cX8_unseen 20 = .ok (.invokevirtual 173, 3) := by decide +kernel
theorem dX8_unseen_23 : decode cX8_unseen 23 = .ok (.aload_n 0, 1) := by decide +kernel
theorem dX8_unseen_24 : decode cX8_unseen 24 = .ok (.getfield 62, 3) := by decide +kernel
theorem dX8_unseen_27 : decode cX8_unseen 27 = .ok (.aload_n 0, 1) := by decide +kernel
theorem dX8_unseen_28 : decode cX8_unseen 28 = .ok (.getfield 55, 3) := by decide +kernel
theorem dX8_unseen_31 : decode cX8_unseen 31 = .ok (.iconst 0, 1) := by decide +kernel
theorem dX8_unseen_32 : decode cX8_unseen 32 = .ok (.invokevirtual 230, 3) := by decide +kernel
theorem dX8_unseen_35 : decode cX8_unseen 35 = .ok (.iconst 0, 1) := by decide +kernel
theorem dX8_unseen_36 : decode cX8_unseen 36 = .ok (.istore_n 1, 1) := by decide +kernel
theorem dX8_unseen_37 : decode cX8_unseen 37 = .ok (.iconst 0, 1) := by decide +kernel
theorem dX8_unseen_38 : decode cX8_unseen 38 = .ok (.istore_n 2, 1) := by decide +kernel
theorem dX8_unseen_39 : decode cX8_unseen 39 = .ok (.iload_n 2, 1) := by decide +kernel
theorem dX8_unseen_40 : decode cX8_unseen 40 = .ok (.aload_n 0, 1) := by decide +kernel
theorem dX8_unseen_41 : decode cX8_unseen 41 = .ok (.getfield 19, 3) := by decide +kernel
theorem dX8_unseen_44 : decode cX8_unseen 44 = .ok (.getfield 113, 3) := by decide +kernel
theorem dX8_unseen_47 : decode cX8_unseen 47 = .ok (.if_icmp .ge 23, 3) := by decide +kernel
theorem dX8_unseen_50 : decode cX8_unseen 50 = .ok (.aload_n 0, 1) := by decide +kernel
theorem dX8_unseen_51 : decode cX8_unseen 51 = .ok (.iload_n 2, 1) := by decide +kernel
theorem dX8_unseen_52 : decode cX8_unseen 52 = .ok (.invokevirtual 234, 3) := by decide +kernel
theorem dX8_unseen_55 : decode cX8_unseen 55 = .ok (.ifCond .eq 9, 3) := by decide +kernel
theorem dX8_unseen_58 : decode cX8_unseen 58 = .ok (.iload_n 1, 1) := by decide +kernel
theorem dX8_unseen_59 : decode cX8_unseen 59 = .ok (.iconst 1, 1) := by decide +kernel
theorem dX8_unseen_60 : decode cX8_unseen 60 = .ok (.iload_n 2, 1) := by decide +kernel
theorem dX8_unseen_61 : decode cX8_unseen 61 = .ok (.ishl, 1) := by decide +kernel
theorem dX8_unseen_62 : decode cX8_unseen 62 = .ok (.ior, 1) := by decide +kernel
theorem dX8_unseen_63 : decode cX8_unseen 63 = .ok (.istore_n 1, 1) := by decide +kernel
theorem dX8_unseen_64 : decode cX8_unseen 64 = .ok (.iinc 2 1, 3) := by decide +kernel
theorem dX8_unseen_67 : decode cX8_unseen 67 = .ok (.goto (-28), 3) := by decide +kernel
theorem dX8_unseen_70 : decode cX8_unseen 70 = .ok (.iload_n 1, 1) := by decide +kernel
theorem dX8_unseen_71 : decode cX8_unseen 71 = .ok (.ireturn, 1) := by decide +kernel
theorem dX8_keep_0 : decode cX8_keep 0 = .ok (.iload_n 1, 1) := by decide +kernel
theorem dX8_keep_1 : decode cX8_keep 1 = .ok (.ifCond .lt 8, 3) := by decide +kernel
theorem dX8_keep_4 : decode cX8_keep 4 = .ok (.iload_n 1, 1) := by decide +kernel
theorem dX8_keep_5 : decode cX8_keep 5 = .ok (.iconst 1, 1) := by decide +kernel
theorem dX8_keep_6 : decode cX8_keep 6 = .ok (.if_icmp .le 5, 3) := by decide +kernel
theorem dX8_keep_9 : decode cX8_keep 9 = .ok (.iconst (-1), 1) := by decide +kernel
theorem dX8_keep_10 : decode cX8_keep 10 = .ok (.ireturn, 1) := by decide +kernel
theorem dX8_keep_11 : decode cX8_keep 11 = .ok (.aload_n 0, 1) := by decide +kernel
theorem dX8_keep_12 : decode cX8_keep 12 = .ok (.iload_n 1, 1) := by decide +kernel
theorem dX8_keep_13 : decode cX8_keep 13 = .ok (.invokevirtual 237, 3) := by decide +kernel
theorem dX8_keep_16 : decode cX8_keep 16 = .ok (.astore_n 2, 1) := by decide +kernel
theorem dX8_keep_17 : decode cX8_keep 17 = .ok (.aload_n 2, 1) := by decide +kernel
theorem dX8_keep_18 : decode cX8_keep 18 = .ok (.getfield 241, 3) := by decide +kernel
theorem dX8_keep_21 : decode cX8_keep 21 = .ok (.aload_n 0, 1) := by decide +kernel
theorem dX8_keep_22 : decode cX8_keep 22 = .ok (.getfield 19, 3) := by decide +kernel
theorem dX8_keep_25 : decode cX8_keep 25 = .ok (.invokevirtual 93, 3) := by decide +kernel
theorem dX8_keep_28 : decode cX8_keep 28 = .ok (.aload_n 2, 1) := by decide +kernel
theorem dX8_keep_29 : decode cX8_keep 29 = .ok (.aload_n 0, 1) := by decide +kernel
theorem dX8_keep_30 : decode cX8_keep 30 = .ok (.getfield 97, 3) := by decide +kernel
theorem dX8_keep_33 : decode cX8_keep 33 = .ok (.putfield 244, 3) := by decide +kernel
theorem dX8_keep_36 : decode cX8_keep 36 = .ok (.aload_n 2, 1) := by decide +kernel
theorem dX8_keep_37 : decode cX8_keep 37 = .ok (.iconst 1, 1) := by decide +kernel
theorem dX8_keep_38 : decode cX8_keep 38 = .ok (.putfield 106, 3) := by decide +kernel
theorem dX8_keep_41 : decode cX8_keep 41 = .ok (.aload_n 0, 1) := by decide +kernel
theorem dX8_keep_42 : decode cX8_keep 42 = .ok (.getfield 19, 3) := by decide +kernel
theorem dX8_keep_45 : decode cX8_keep 45 = .ok (.getfield 113, 3) := by decide +kernel
theorem dX8_keep_48 : decode cX8_keep 48 = .ok (.ireturn, 1) := by decide +kernel
theorem dX8_back_0 : decode cX8_back 0 = .ok (.iload_n 1, 1) := by decide +kernel
theorem dX8_back_1 : decode cX8_back 1 = .ok (.ifCond .lt 8, 3) := by decide +kernel
theorem dX8_back_4 : decode cX8_back 4 = .ok (.iload_n 1, 1) := by decide +kernel
theorem dX8_back_5 : decode cX8_back 5 = .ok (.iconst 1, 1) := by decide +kernel
theorem dX8_back_6 : decode cX8_back 6 = .ok (.if_icmp .le 5, 3) := by decide +kernel
theorem dX8_back_9 : decode cX8_back 9 = .ok (.iconst (-1), 1) := by decide +kernel
theorem dX8_back_10 : decode cX8_back 10 = .ok (.ireturn, 1) := by decide +kernel
theorem dX8_back_11 : decode cX8_back 11 = .ok (.aload_n 0, 1) := by decide +kernel
theorem dX8_back_12 : decode cX8_back 12 = .ok (.iload_n 1, 1) := by decide +kernel
theorem dX8_back_13 : decode cX8_back 13 = .ok (.invokevirtual 237, 3) := by decide +kernel
theorem dX8_back_16 : decode cX8_back 16 = .ok (.astore_n 2, 1) := by decide +kernel
theorem dX8_back_17 : decode cX8_back 17 = .ok (.aload_n 2, 1) := by decide +kernel
theorem dX8_back_18 : decode cX8_back 18 = .ok (.getfield 106, 3) := by decide +kernel
theorem dX8_back_21 : decode cX8_back 21 = .ok (.ifCond .ne 6, 3) := by decide +kernel
theorem dX8_back_24 : decode cX8_back 24 = .ok (.bipush (-2), 2) := by decide +kernel
theorem dX8_back_26 : decode cX8_back 26 = .ok (.ireturn, 1) := by decide +kernel
theorem dX8_back_27 : decode cX8_back 27 = .ok (.aload_n 0, 1) := by decide +kernel
theorem dX8_back_28 : decode cX8_back 28 = .ok (.getfield 19, 3) := by decide +kernel
theorem dX8_back_31 : decode cX8_back 31 = .ok (.aload_n 2, 1) := by decide +kernel
theorem dX8_back_32 : decode cX8_back 32 = .ok (.getfield 241, 3) := by decide +kernel
theorem dX8_back_35 : decode cX8_back 35 = .ok (.invokevirtual 93, 3) := by decide +kernel
theorem dX8_back_38 : decode cX8_back 38 = .ok (.aload_n 0, 1) := by decide +kernel
theorem dX8_back_39 : decode cX8_back 39 = .ok (.aload_n 2, 1) := by decide +kernel
theorem dX8_back_40 : decode cX8_back 40 = .ok (.getfield 244, 3) := by decide +kernel
theorem dX8_back_43 : decode cX8_back 43 = .ok (.putfield 97, 3) := by decide +kernel
theorem dX8_back_46 : decode cX8_back 46 = .ok (.aload_n 0, 1) := by decide +kernel
theorem dX8_back_47 : decode cX8_back 47 = .ok (.getfield 29, 3) := by decide +kernel
theorem dX8_back_50 : decode cX8_back 50 = .ok (.iconst 0, 1) := by decide +kernel
theorem dX8_back_51 : decode cX8_back 51 = .ok (.putfield 100, 3) := by decide +kernel
theorem dX8_back_54 : decode cX8_back 54 = .ok (.aload_n 0, 1) := by decide +kernel
theorem dX8_back_55 : decode cX8_back 55 = .ok (.iconst 0, 1) := by decide +kernel
theorem dX8_back_56 : decode cX8_back 56 = .ok (.putfield 110, 3) := by decide +kernel
theorem dX8_back_59 : decode cX8_back 59 = .ok (.aload_n 0, 1) := by decide +kernel
theorem dX8_back_60 : decode cX8_back 60 = .ok (.getfield 19, 3) := by decide +kernel
theorem dX8_back_63 : decode cX8_back 63 = .ok (.getfield 113, 3) := by decide +kernel
theorem dX8_back_66 : decode cX8_back 66 = .ok (.ireturn, 1) := by decide +kernel
theorem dX8_count_0 : decode cX8_count 0 = .ok (.iload_n 1, 1) := by decide +kernel
theorem dX8_count_1 : decode cX8_count 1 = .ok (.tableswitch 129 0 9 #[55, 63, 71, 82, 87, 98, 103, 108, 113, 121], 55) := by decide +kernel
theorem dX8_count_56 : decode cX8_count 56 = .ok (.aload_n 0, 1) := by decide +kernel
theorem dX8_count_57 : decode cX8_count 57 = .ok (.getfield 19, 3) := by decide +kernel
theorem dX8_count_60 : decode cX8_count 60 = .ok (.getfield 113, 3) := by decide +kernel
theorem dX8_count_63 : decode cX8_count 63 = .ok (.ireturn, 1) := by decide +kernel
theorem dX8_count_64 : decode cX8_count 64 = .ok (.aload_n 0, 1) := by decide +kernel
theorem dX8_count_65 : decode cX8_count 65 = .ok (.getfield 19, 3) := by decide +kernel
theorem dX8_count_68 : decode cX8_count 68 = .ok (.getfield 212, 3) := by decide +kernel
theorem dX8_count_71 : decode cX8_count 71 = .ok (.ireturn, 1) := by decide +kernel
theorem dX8_count_72 : decode cX8_count 72 = .ok (.aload_n 0, 1) := by decide +kernel
theorem dX8_count_73 : decode cX8_count 73 = .ok (.getfield 19, 3) := by decide +kernel
theorem dX8_count_76 : decode cX8_count 76 = .ok (.getfield 113, 3) := by decide +kernel
theorem dX8_count_79 : decode cX8_count 79 = .ok (.invokestatic 182, 3) := by decide +kernel
theorem dX8_count_82 : decode cX8_count 82 = .ok (.ireturn, 1) := by decide +kernel
theorem dX8_count_83 : decode cX8_count 83 = .ok (.aload_n 0, 1) := by decide +kernel
theorem dX8_count_84 : decode cX8_count 84 = .ok (.getfield 97, 3) := by decide +kernel
theorem dX8_count_87 : decode cX8_count 87 = .ok (.ireturn, 1) := by decide +kernel
theorem dX8_count_88 : decode cX8_count 88 = .ok (.aload_n 0, 1) := by decide +kernel
theorem dX8_count_89 : decode cX8_count 89 = .ok (.getfield 19, 3) := by decide +kernel
theorem dX8_count_92 : decode cX8_count 92 = .ok (.getfield 113, 3) := by decide +kernel
theorem dX8_count_95 : decode cX8_count 95 = .ok (.invokestatic 170, 3) := by decide +kernel
theorem dX8_count_98 : decode cX8_count 98 = .ok (.ireturn, 1) := by decide +kernel
theorem dX8_count_99 : decode cX8_count 99 = .ok (.aload_n 0, 1) := by decide +kernel
theorem dX8_count_100 : decode cX8_count 100 = .ok (.invokevirtual 245, 3) := by decide +kernel
theorem dX8_count_103 : decode cX8_count 103 = .ok (.ireturn, 1) := by decide +kernel
theorem dX8_count_104 : decode cX8_count 104 = .ok (.aload_n 0, 1) := by decide +kernel
theorem dX8_count_105 : decode cX8_count 105 = .ok (.invokevirtual 248, 3) := by decide +kernel
theorem dX8_count_108 : decode cX8_count 108 = .ok (.ireturn, 1) := by decide +kernel
theorem dX8_count_109 : decode cX8_count 109 = .ok (.aload_n 0, 1) := by decide +kernel
theorem dX8_count_110 : decode cX8_count 110 = .ok (.getfield 103, 3) := by decide +kernel
theorem dX8_count_113 : decode cX8_count 113 = .ok (.ireturn, 1) := by decide +kernel
theorem dX8_count_114 : decode cX8_count 114 = .ok (.aload_n 0, 1) := by decide +kernel
theorem dX8_count_115 : decode cX8_count 115 = .ok (.getfield 12, 3) := by decide +kernel
theorem dX8_count_118 : decode cX8_count 118 = .ok (.getfield 82, 3) := by decide +kernel
theorem dX8_count_121 : decode cX8_count 121 = .ok (.ireturn, 1) := by decide +kernel
theorem dX8_count_122 : decode cX8_count 122 = .ok (.aload_n 0, 1) := by decide +kernel
theorem dX8_count_123 : decode cX8_count 123 = .ok (.getfield 29, 3) := by decide +kernel
theorem dX8_count_126 : decode cX8_count 126 = .ok (.getfield 100, 3) := by decide +kernel
theorem dX8_count_129 : decode cX8_count 129 = .ok (.ireturn, 1) := by decide +kernel
theorem dX8_count_130 : decode cX8_count 130 = .ok (.iconst (-1), 1) := by decide +kernel
theorem dX8_count_131 : decode cX8_count 131 = .ok (.ireturn, 1) := by decide +kernel
theorem dX8_treesOf_0 : decode cX8_treesOf 0 = .ok (.iload_n 0, 1) := by decide +kernel
theorem dX8_treesOf_1 : decode cX8_treesOf 1 = .ok (.ifCond .lt 19, 3) := by decide +kernel
theorem dX8_treesOf_4 : decode cX8_treesOf 4 = .ok (.iload_n 0, 1) := by decide +kernel
theorem dX8_treesOf_5 : decode cX8_treesOf 5 = .ok (.getstatic 251, 3) := by decide +kernel
theorem dX8_treesOf_8 : decode cX8_treesOf 8 = .ok (.arraylength, 1) := by decide +kernel
theorem dX8_treesOf_9 : decode cX8_treesOf 9 = .ok (.if_icmp .ge 11, 3) := by decide +kernel
theorem dX8_treesOf_12 : decode cX8_treesOf 12 = .ok (.getstatic 251, 3) := by decide +kernel
theorem dX8_treesOf_15 : decode cX8_treesOf 15 = .ok (.iload_n 0, 1) := by decide +kernel
theorem dX8_treesOf_16 : decode cX8_treesOf 16 = .ok (.iaload, 1) := by decide +kernel
theorem dX8_treesOf_17 : decode cX8_treesOf 17 = .ok (.goto 4, 3) := by decide +kernel
theorem dX8_treesOf_20 : decode cX8_treesOf 20 = .ok (.iconst 1, 1) := by decide +kernel
theorem dX8_treesOf_21 : decode cX8_treesOf 21 = .ok (.ireturn, 1) := by decide +kernel
theorem dX8_edgesOf_0 : decode cX8_edgesOf 0 = .ok (.iload_n 0, 1) := by decide +kernel
theorem dX8_edgesOf_1 : decode cX8_edgesOf 1 = .ok (.iconst 3, 1) := by decide +kernel
theorem dX8_edgesOf_2 : decode cX8_edgesOf 2 = .ok (.if_icmp .ge 13, 3) := by decide +kernel
theorem dX8_edgesOf_5 : decode cX8_edgesOf 5 = .ok (.iload_n 0, 1) := by decide +kernel
theorem dX8_edgesOf_6 : decode cX8_edgesOf 6 = .ok (.iconst 1, 1) := by decide +kernel
theorem dX8_edgesOf_7 : decode cX8_edgesOf 7 = .ok (.isub, 1) := by decide +kernel
theorem dX8_edgesOf_8 : decode cX8_edgesOf 8 = .ok (.iconst 0, 1) := by decide +kernel
theorem dX8_edgesOf_9 : decode cX8_edgesOf 9 = .ok (.invokestatic 255, 3) := by decide +kernel
theorem dX8_edgesOf_12 : decode cX8_edgesOf 12 = .ok (.goto 8, 3) := by decide +kernel
theorem dX8_edgesOf_15 : decode cX8_edgesOf 15 = .ok (.iconst 2, 1) := by decide +kernel
theorem dX8_edgesOf_16 : decode cX8_edgesOf 16 = .ok (.iload_n 0, 1) := by decide +kernel
theorem dX8_edgesOf_17 : decode cX8_edgesOf 17 = .ok (.imul, 1) := by decide +kernel
theorem dX8_edgesOf_18 : decode cX8_edgesOf 18 = .ok (.iconst 3, 1) := by decide +kernel
theorem dX8_edgesOf_19 : decode cX8_edgesOf 19 = .ok (.isub, 1) := by decide +kernel
theorem dX8_edgesOf_20 : decode cX8_edgesOf 20 = .ok (.ireturn, 1) := by decide +kernel
theorem dX8_bitsOf_0 : decode cX8_bitsOf 0 = .ok (.bipush 15, 2) := by decide +kernel
theorem dX8_bitsOf_2 : decode cX8_bitsOf 2 = .ok (.iconst 4, 1) := by decide +kernel
theorem dX8_bitsOf_3 : decode cX8_bitsOf 3 = .ok (.iload_n 0, 1) := by decide +kernel
theorem dX8_bitsOf_4 : decode cX8_bitsOf 4 = .ok (.imul, 1) := by decide +kernel
theorem dX8_bitsOf_5 : decode cX8_bitsOf 5 = .ok (.ishl, 1) := by decide +kernel
theorem dX8_bitsOf_6 : decode cX8_bitsOf 6 = .ok (.ireturn, 1) := by decide +kernel
theorem dX8_bitOf_0 : decode cX8_bitOf 0 = .ok (.iconst 1, 1) := by decide +kernel
theorem dX8_bitOf_1 : decode cX8_bitOf 1 = .ok (.iconst 4, 1) := by decide +kernel
theorem dX8_bitOf_2 : decode cX8_bitOf 2 = .ok (.iload_n 0, 1) := by decide +kernel
theorem dX8_bitOf_3 : decode cX8_bitOf 3 = .ok (.imul, 1) := by decide +kernel
theorem dX8_bitOf_4 : decode cX8_bitOf 4 = .ok (.iload_n 1, 1) := by decide +kernel
theorem dX8_bitOf_5 : decode cX8_bitOf 5 = .ok (.iadd, 1) := by decide +kernel
theorem dX8_bitOf_6 : decode cX8_bitOf 6 = .ok (.ishl, 1) := by decide +kernel
theorem dX8_bitOf_7 : decode cX8_bitOf 7 = .ok (.ireturn, 1) := by decide +kernel
theorem dX8_isTree_0 : decode cX8_isTree 0 = .ok (.iload_n 1, 1) := by decide +kernel
theorem dX8_isTree_1 : decode cX8_isTree 1 = .ok (.ifCond .lt 21, 3) := by decide +kernel
theorem dX8_isTree_4 : decode cX8_isTree 4 = .ok (.iload_n 1, 1) := by decide +kernel
theorem dX8_isTree_5 : decode cX8_isTree 5 = .ok (.aload_n 0, 1) := by decide +kernel
theorem dX8_isTree_6 : decode cX8_isTree 6 = .ok (.getfield 19, 3) := by decide +kernel
theorem dX8_isTree_9 : decode cX8_isTree 9 = .ok (.getfield 113, 3) := by decide +kernel
theorem dX8_isTree_12 : decode cX8_isTree 12 = .ok (.invokestatic 182, 3) := by decide +kernel
theorem dX8_isTree_15 : decode cX8_isTree 15 = .ok (.if_icmp .ge 7, 3) := by decide +kernel
theorem dX8_isTree_18 : decode cX8_isTree 18 = .ok (.iconst 1, 1) := by decide +kernel
theorem dX8_isTree_19 : decode cX8_isTree 19 = .ok (.goto 4, 3) := by decide +kernel
theorem dX8_isTree_22 : decode cX8_isTree 22 = .ok (.iconst 0, 1) := by decide +kernel
theorem dX8_isTree_23 : decode cX8_isTree 23 = .ok (.ireturn, 1) := by decide +kernel
theorem dX8_imageOf_0 : decode cX8_imageOf 0 = .ok (.iload_n 1, 1) := by decide +kernel
theorem dX8_imageOf_1 : decode cX8_imageOf 1 = .ok (.ifCond .ne 10, 3) := by decide +kernel
theorem dX8_imageOf_4 : decode cX8_imageOf 4 = .ok (.aload_n 0, 1) := by decide +kernel
theorem dX8_imageOf_5 : decode cX8_imageOf 5 = .ok (.getfield 36, 3) := by decide +kernel
theorem dX8_imageOf_8 : decode cX8_imageOf 8 = .ok (.goto 7, 3) := by decide +kernel
theorem dX8_imageOf_11 : decode cX8_imageOf 11 = .ok (.aload_n 0, 1) := by decide +kernel
theorem dX8_imageOf_12 : decode cX8_imageOf 12 = .ok (.getfield 40, 3) := by decide +kernel
theorem dX8_imageOf_15 : decode cX8_imageOf 15 = .ok (.areturn, 1) := by decide +kernel
theorem dX8_becomeTree_0 : decode cX8_becomeTree 0 = .ok (.aload_n 0, 1) := by decide +kernel
theorem dX8_becomeTree_1 : decode cX8_becomeTree 1 = .ok (.getfield 29, 3) := by decide +kernel
theorem dX8_becomeTree_4 : decode cX8_becomeTree 4 = .ok (.iconst (-1), 1) := by decide +kernel
theorem dX8_becomeTree_5 : decode cX8_becomeTree 5 = .ok (.aload_n 0, 1) := by decide +kernel
theorem dX8_becomeTree_6 : decode cX8_becomeTree 6 = .ok (.getfield 97, 3) := by decide +kernel
theorem dX8_becomeTree_9 : decode cX8_becomeTree 9 = .ok (.invokevirtual 127, 3) := by decide +kernel
theorem dX8_becomeTree_12 : decode cX8_becomeTree 12 = .ok (.aload_n 0, 1) := by decide +kernel
theorem dX8_becomeTree_13 : decode cX8_becomeTree 13 = .ok (.iload_n 1, 1) := by decide +kernel
theorem dX8_becomeTree_14 : decode cX8_becomeTree 14 = .ok (.putfield 97, 3) := by decide +kernel
theorem dX8_becomeTree_17 : decode cX8_becomeTree 17 = .ok (.return_, 1) := by decide +kernel
theorem dX8_loadSets_0 : decode cX8_loadSets 0 = .ok (.iconst 0, 1) := by decide +kernel
theorem dX8_loadSets_1 : decode cX8_loadSets 1 = .ok (.istore_n 2, 1) := by decide +kernel
theorem dX8_loadSets_2 : decode cX8_loadSets 2 = .ok (.iload_n 2, 1) := by decide +kernel
theorem dX8_loadSets_3 : decode cX8_loadSets 3 = .ok (.bipush 6, 2) := by decide +kernel
theorem dX8_loadSets_5 : decode cX8_loadSets 5 = .ok (.if_icmp .ge 43, 3) := by decide +kernel
theorem dX8_loadSets_8 : decode cX8_loadSets 8 = .ok (.aload_n 0, 1) := by decide +kernel
theorem dX8_loadSets_9 : decode cX8_loadSets 9 = .ok (.getfield 19, 3) := by decide +kernel
theorem dX8_loadSets_12 : decode cX8_loadSets 12 = .ok (.iload_n 2, 1) := by decide +kernel
theorem dX8_loadSets_13 : decode cX8_loadSets 13 = .ok (.invokevirtual 260, 3) := by decide +kernel
theorem dX8_loadSets_16 : decode cX8_loadSets 16 = .ok (.istore_n 3, 1) := by decide +kernel
theorem dX8_loadSets_17 : decode cX8_loadSets 17 = .ok (.aload_n 0, 1) := by decide +kernel
theorem dX8_loadSets_18 : decode cX8_loadSets 18 = .ok (.getfield 66, 3) := by decide +kernel
theorem dX8_loadSets_21 : decode cX8_loadSets 21 = .ok (.iload_n 2, 1) := by decide +kernel
theorem dX8_loadSets_22 : decode cX8_loadSets 22 = .ok (.iload_n 1, 1) := by decide +kernel
theorem dX8_loadSets_23 : decode cX8_loadSets 23 = .ok (.iconst (-1), 1) := by decide +kernel
theorem dX8_loadSets_24 : decode cX8_loadSets 24 = .ok (.if_icmp .ne 7, 3) := by decide +kernel
theorem dX8_loadSets_27 : decode cX8_loadSets 27 = .ok (.iload_n 3, 1) := by decide +kernel
theorem dX8_loadSets_28 : decode cX8_loadSets 28 = .ok (.goto 11, 3) := by decide +kernel
theorem dX8_loadSets_31 : decode cX8_loadSets 31 = .ok (.iload_n 3, 1) := by decide +kernel
theorem dX8_loadSets_32 : decode cX8_loadSets 32 = .ok (.iload_n 1, 1) := by decide +kernel
theorem dX8_loadSets_33 : decode cX8_loadSets 33 = .ok (.invokestatic 263, 3) := by decide +kernel
theorem dX8_loadSets_36 : decode cX8_loadSets 36 = .ok (.iconst (-1), 1) := by decide +kernel
theorem dX8_loadSets_37 : decode cX8_loadSets 37 = .ok (.ixor, 1) := by decide +kernel
theorem dX8_loadSets_38 : decode cX8_loadSets 38 = .ok (.ior, 1) := by decide +kernel
theorem dX8_loadSets_39 : decode cX8_loadSets 39 = .ok (.invokevirtual 159, 3) := by decide +kernel
theorem dX8_loadSets_42 : decode cX8_loadSets 42 = .ok (.iinc 2 1, 3) := by decide +kernel
theorem dX8_loadSets_45 : decode cX8_loadSets 45 = .ok (.goto (-43), 3) := by decide +kernel
theorem dX8_loadSets_48 : decode cX8_loadSets 48 = .ok (.return_, 1) := by decide +kernel
theorem dX8_changesOf_0 : decode cX8_changesOf 0 = .ok (.aload_n 0, 1) := by decide +kernel
theorem dX8_changesOf_1 : decode cX8_changesOf 1 = .ok (.getfield 55, 3) := by decide +kernel
theorem dX8_changesOf_4 : decode cX8_changesOf 4 = .ok (.iload_n 1, 1) := by decide +kernel
theorem dX8_changesOf_5 : decode cX8_changesOf 5 = .ok (.aload_n 0, 1) := by decide +kernel
theorem dX8_changesOf_6 : decode cX8_changesOf 6 = .ok (.getfield 19, 3) := by decide +kernel
theorem dX8_changesOf_9 : decode cX8_changesOf 9 = .ok (.getfield 113, 3) := by decide +kernel
theorem dX8_changesOf_12 : decode cX8_changesOf 12 = .ok (.invokevirtual 173, 3) := by decide +kernel
theorem dX8_changesOf_15 : decode cX8_changesOf 15 = .ok (.aload_n 0, 1) := by decide +kernel
theorem dX8_changesOf_16 : decode cX8_changesOf 16 = .ok (.getfield 62, 3) := by decide +kernel
theorem dX8_changesOf_19 : decode cX8_changesOf 19 = .ok (.aload_n 0, 1) := by decide +kernel
theorem dX8_changesOf_20 : decode cX8_changesOf 20 = .ok (.getfield 55, 3) := by decide +kernel
theorem dX8_changesOf_23 : decode cX8_changesOf 23 = .ok (.iconst 0, 1) := by decide +kernel
theorem dX8_changesOf_24 : decode cX8_changesOf 24 = .ok (.invokevirtual 230, 3) := by decide +kernel
theorem dX8_changesOf_27 : decode cX8_changesOf 27 = .ok (.aload_n 0, 1) := by decide +kernel
theorem dX8_changesOf_28 : decode cX8_changesOf 28 = .ok (.getfield 62, 3) := by decide +kernel
theorem dX8_changesOf_31 : decode cX8_changesOf 31 = .ok (.aload_n 0, 1) := by decide +kernel
theorem dX8_changesOf_32 : decode cX8_changesOf 32 = .ok (.getfield 66, 3) := by decide +kernel
theorem dX8_changesOf_35 : decode cX8_changesOf 35 = .ok (.invokevirtual 266, 3) := by decide +kernel
theorem dX8_changesOf_38 : decode cX8_changesOf 38 = .ok (.ireturn, 1) := by decide +kernel
theorem dX8_changesIf_0 : decode cX8_changesIf 0 = .ok (.aload_n 0, 1) := by decide +kernel
theorem dX8_changesIf_1 : decode cX8_changesIf 1 = .ok (.getfield 66, 3) := by decide +kernel
theorem dX8_changesIf_4 : decode cX8_changesIf 4 = .ok (.iload_n 1, 1) := by decide +kernel
theorem dX8_changesIf_5 : decode cX8_changesIf 5 = .ok (.invokevirtual 152, 3) := by decide +kernel
theorem dX8_changesIf_8 : decode cX8_changesIf 8 = .ok (.istore 4, 2) := by decide +kernel
theorem dX8_changesIf_10 : decode cX8_changesIf 10 = .ok (.aload_n 0, 1) := by decide +kernel
theorem dX8_changesIf_11 : decode cX8_changesIf 11 = .ok (.getfield 66, 3) := by decide +kernel
theorem dX8_changesIf_14 : decode cX8_changesIf 14 = .ok (.iload_n 1, 1) := by decide +kernel
theorem dX8_changesIf_15 : decode cX8_changesIf 15 = .ok (.iload 4, 2) := by decide +kernel
theorem dX8_changesIf_17 : decode cX8_changesIf 17 = .ok (.iload_n 2, 1) := by decide +kernel
theorem dX8_changesIf_18 : decode cX8_changesIf 18 = .ok (.invokestatic 263, 3) := by decide +kernel
theorem dX8_changesIf_21 : decode cX8_changesIf 21 = .ok (.iconst (-1), 1) := by decide +kernel
theorem dX8_changesIf_22 : decode cX8_changesIf 22 = .ok (.ixor, 1) := by decide +kernel
theorem dX8_changesIf_23 : decode cX8_changesIf 23 = .ok (.iand, 1) := by decide +kernel
theorem dX8_changesIf_24 : decode cX8_changesIf 24 = .ok (.iload_n 2, 1) := by decide +kernel
theorem dX8_changesIf_25 : decode cX8_changesIf 25 = .ok (.iload_n 3, 1) := by decide +kernel
theorem dX8_changesIf_26 : decode cX8_changesIf 26 = .ok (.invokestatic 270, 3) := by decide +kernel
theorem dX8_changesIf_29 : decode cX8_changesIf 29 = .ok (.ior, 1) := by decide +kernel
theorem dX8_changesIf_30 : decode cX8_changesIf 30 = .ok (.invokevirtual 159, 3) := by decide +kernel
theorem dX8_changesIf_33 : decode cX8_changesIf 33 = .ok (.aload_n 0, 1) := by decide +kernel
theorem dX8_changesIf_34 : decode cX8_changesIf 34 = .ok (.getfield 62, 3) := by decide +kernel
theorem dX8_changesIf_37 : decode cX8_changesIf 37 = .ok (.aload_n 0, 1) := by decide +kernel
theorem dX8_changesIf_38 : decode cX8_changesIf 38 = .ok (.getfield 66, 3) := by decide +kernel
theorem dX8_changesIf_41 : decode cX8_changesIf 41 = .ok (.invokevirtual 266, 3) := by decide +kernel
theorem dX8_changesIf_44 : decode cX8_changesIf 44 = .ok (.istore 5, 2) := by decide +kernel
theorem dX8_changesIf_46 : decode cX8_changesIf 46 = .ok (.aload_n 0, 1) := by decide +kernel
theorem dX8_changesIf_47 : decode cX8_changesIf 47 = .ok (.getfield 66, 3) := by decide +kernel
theorem dX8_changesIf_50 : decode cX8_changesIf 50 = .ok (.iload_n 1, 1) := by decide +kernel
theorem dX8_changesIf_51 : decode cX8_changesIf 51 = .ok (.iload 4, 2) := by decide +kernel
theorem dX8_changesIf_53 : decode cX8_changesIf 53 = .ok (.invokevirtual 159, 3) := by decide +kernel
theorem dX8_changesIf_56 : decode cX8_changesIf 56 = .ok (.iload 5, 2) := by decide +kernel
theorem dX8_changesIf_58 : decode cX8_changesIf 58 = .ok (.ireturn, 1) := by decide +kernel
theorem dX8_costFrom_0 : decode cX8_costFrom 0 = .ok (.aload_n 0, 1) := by decide +kernel
theorem dX8_costFrom_1 : decode cX8_costFrom 1 = .ok (.getfield 62, 3) := by decide +kernel
theorem dX8_costFrom_4 : decode cX8_costFrom 4 = .ok (.aload_n 0, 1) := by decide +kernel
theorem dX8_costFrom_5 : decode cX8_costFrom 5 = .ok (.getfield 55, 3) := by decide +kernel
theorem dX8_costFrom_8 : decode cX8_costFrom 8 = .ok (.iload_n 1, 1) := by decide +kernel
theorem dX8_costFrom_9 : decode cX8_costFrom 9 = .ok (.invokevirtual 230, 3) := by decide +kernel
theorem dX8_costFrom_12 : decode cX8_costFrom 12 = .ok (.iconst 0, 1) := by decide +kernel
theorem dX8_costFrom_13 : decode cX8_costFrom 13 = .ok (.istore_n 2, 1) := by decide +kernel
theorem dX8_costFrom_14 : decode cX8_costFrom 14 = .ok (.iconst 0, 1) := by decide +kernel
theorem dX8_costFrom_15 : decode cX8_costFrom 15 = .ok (.istore_n 3, 1) := by decide +kernel
theorem dX8_costFrom_16 : decode cX8_costFrom 16 = .ok (.iload_n 3, 1) := by decide +kernel
theorem dX8_costFrom_17 : decode cX8_costFrom 17 = .ok (.aload_n 0, 1) := by decide +kernel
theorem dX8_costFrom_18 : decode cX8_costFrom 18 = .ok (.getfield 19, 3) := by decide +kernel
theorem dX8_costFrom_21 : decode cX8_costFrom 21 = .ok (.getfield 212, 3) := by decide +kernel
theorem dX8_costFrom_24 : decode cX8_costFrom 24 = .ok (.if_icmp .ge 24, 3) := by decide +kernel
theorem dX8_costFrom_27 : decode cX8_costFrom 27 = .ok (.iload_n 2, 1) := by decide +kernel
theorem dX8_costFrom_28 : decode cX8_costFrom 28 = .ok (.aload_n 0, 1) := by decide +kernel
theorem dX8_costFrom_29 : decode cX8_costFrom 29 = .ok (.getfield 62, 3) := by decide +kernel
theorem dX8_costFrom_32 : decode cX8_costFrom 32 = .ok (.iload_n 3, 1) := by decide +kernel
theorem dX8_costFrom_33 : decode cX8_costFrom 33 = .ok (.aload_n 0, 1) := by decide +kernel
theorem dX8_costFrom_34 : decode cX8_costFrom 34 = .ok (.getfield 66, 3) := by decide +kernel
theorem dX8_costFrom_37 : decode cX8_costFrom 37 = .ok (.invokevirtual 273, 3) := by decide +kernel
theorem dX8_costFrom_40 : decode cX8_costFrom 40 = .ok (.iadd, 1) := by decide +kernel
theorem dX8_costFrom_41 : decode cX8_costFrom 41 = .ok (.istore_n 2, 1) := by decide +kernel
theorem dX8_costFrom_42 : decode cX8_costFrom 42 = .ok (.iinc 3 1, 3) := by decide +kernel
theorem dX8_costFrom_45 : decode cX8_costFrom 45 = .ok (.goto (-29), 3) := by decide +kernel
theorem dX8_costFrom_48 : decode cX8_costFrom 48 = .ok (.iload_n 2, 1) := by decide +kernel
theorem dX8_costFrom_49 : decode cX8_costFrom 49 = .ok (.ireturn, 1) := by decide +kernel
theorem dX8_weighTrees_0 : decode cX8_weighTrees 0 = .ok (.aload_n 0, 1) := by decide +kernel
theorem dX8_weighTrees_1 : decode cX8_weighTrees 1 = .ok (.getfield 110, 3) := by decide +kernel
theorem dX8_weighTrees_4 : decode cX8_weighTrees 4 = .ok (.ifCond .eq 4, 3) := by decide +kernel
theorem dX8_weighTrees_7 : decode cX8_weighTrees 7 = .ok (.return_, 1) := by decide +kernel
theorem dX8_weighTrees_8 : decode cX8_weighTrees 8 = .ok (.iconst 0, 1) := by decide +kernel
theorem dX8_weighTrees_9 : decode cX8_weighTrees 9 = .ok (.istore_n 1, 1) := by decide +kernel
theorem dX8_weighTrees_10 : decode cX8_weighTrees 10 = .ok (.iload_n 1, 1) := by decide +kernel
theorem dX8_weighTrees_11 : decode cX8_weighTrees 11 = .ok (.bipush 48, 2) := by decide +kernel
theorem dX8_weighTrees_13 : decode cX8_weighTrees 13 = .ok (.if_icmp .gt 18, 3) := by decide +kernel
theorem dX8_weighTrees_16 : decode cX8_weighTrees 16 = .ok (.aload_n 0, 1) := by decide +kernel
theorem dX8_weighTrees_17 : decode cX8_weighTrees 17 = .ok (.getfield 72, 3) := by decide +kernel
theorem dX8_weighTrees_20 : decode cX8_weighTrees 20 = .ok (.iload_n 1, 1) := by decide +kernel
theorem dX8_weighTrees_21 : decode cX8_weighTrees 21 = .ok (.iconst 0, 1) := by decide +kernel
theorem dX8_weighTrees_22 : decode cX8_weighTrees 22 = .ok (.invokevirtual 159, 3) := by decide +kernel
theorem dX8_weighTrees_25 : decode cX8_weighTrees 25 = .ok (.iinc 1 1, 3) := by decide +kernel
theorem dX8_weighTrees_28 : decode cX8_weighTrees 28 = .ok (.goto (-18), 3) := by decide +kernel
theorem dX8_weighTrees_31 : decode cX8_weighTrees 31 = .ok (.aload_n 0, 1) := by decide +kernel
theorem dX8_weighTrees_32 : decode cX8_weighTrees 32 = .ok (.iconst (-1), 1) := by decide +kernel
theorem dX8_weighTrees_33 : decode cX8_weighTrees 33 = .ok (.invokevirtual 164, 3) := by decide +kernel
theorem dX8_weighTrees_36 : decode cX8_weighTrees 36 = .ok (.aload_n 0, 1) := by decide +kernel
theorem dX8_weighTrees_37 : decode cX8_weighTrees 37 = .ok (.getfield 19, 3) := by decide +kernel
theorem dX8_weighTrees_40 : decode cX8_weighTrees 40 = .ok (.getfield 113, 3) := by decide +kernel
theorem dX8_weighTrees_43 : decode cX8_weighTrees 43 = .ok (.invokestatic 182, 3) := by decide +kernel
theorem dX8_weighTrees_46 : decode cX8_weighTrees 46 = .ok (.istore_n 1, 1) := by decide +kernel
theorem dX8_weighTrees_47 : decode cX8_weighTrees 47 = .ok (.iconst 0, 1) := by decide +kernel
theorem dX8_weighTrees_48 : decode cX8_weighTrees 48 = .ok (.istore_n 2, 1) := by decide +kernel
theorem dX8_weighTrees_49 : decode cX8_weighTrees 49 = .ok (.iload_n 2, 1) := by decide +kernel
theorem dX8_weighTrees_50 : decode cX8_weighTrees 50 = .ok (.iload_n 1, 1) := by decide +kernel
theorem dX8_weighTrees_51 : decode cX8_weighTrees 51 = .ok (.if_icmp .ge 42, 3) := by decide +kernel
theorem dX8_weighTrees_54 : decode cX8_weighTrees 54 = .ok (.aload_n 0, 1) := by decide +kernel
theorem dX8_weighTrees_55 : decode cX8_weighTrees 55 = .ok (.iload_n 2, 1) := by decide +kernel
theorem dX8_weighTrees_56 : decode cX8_weighTrees 56 = .ok (.invokevirtual 167, 3) := by decide +kernel
theorem dX8_weighTrees_59 : decode cX8_weighTrees 59 = .ok (.istore_n 3, 1) := by decide +kernel
theorem dX8_weighTrees_60 : decode cX8_weighTrees 60 = .ok (.aload_n 0, 1) := by decide +kernel
theorem dX8_weighTrees_61 : decode cX8_weighTrees 61 = .ok (.getfield 69, 3) := by decide +kernel
theorem dX8_weighTrees_64 : decode cX8_weighTrees 64 = .ok (.iload_n 2, 1) := by decide +kernel
theorem dX8_weighTrees_65 : decode cX8_weighTrees 65 = .ok (.iload_n 3, 1) := by decide +kernel
theorem dX8_weighTrees_66 : decode cX8_weighTrees 66 = .ok (.invokevirtual 159, 3) := by decide +kernel
theorem dX8_weighTrees_69 : decode cX8_weighTrees 69 = .ok (.aload_n 0, 1) := by decide +kernel
theorem dX8_weighTrees_70 : decode cX8_weighTrees 70 = .ok (.getfield 72, 3) := by decide +kernel
theorem dX8_weighTrees_73 : decode cX8_weighTrees 73 = .ok (.iload_n 3, 1) := by decide +kernel
theorem dX8_weighTrees_74 : decode cX8_weighTrees 74 = .ok (.aload_n 0, 1) := by decide +kernel
theorem dX8_weighTrees_75 : decode cX8_weighTrees 75 = .ok (.getfield 72, 3) := by decide +kernel
theorem dX8_weighTrees_78 : decode cX8_weighTrees 78 = .ok (.iload_n 3, 1) := by decide +kernel
theorem dX8_weighTrees_79 : decode cX8_weighTrees 79 = .ok (.invokevirtual 152, 3) := by decide +kernel
theorem dX8_weighTrees_82 : decode cX8_weighTrees 82 = .ok (.iconst 1, 1) := by decide +kernel
theorem dX8_weighTrees_83 : decode cX8_weighTrees 83 = .ok (.iadd, 1) := by decide +kernel
theorem dX8_weighTrees_84 : decode cX8_weighTrees 84 = .ok (.invokevirtual 159, 3) := by decide +kernel
theorem dX8_weighTrees_87 : decode cX8_weighTrees 87 = .ok (.iinc 2 1, 3) := by decide +kernel
theorem dX8_weighTrees_90 : decode cX8_weighTrees 90 = .ok (.goto (-41), 3) := by decide +kernel
theorem dX8_weighTrees_93 : decode cX8_weighTrees 93 = .ok (.aload_n 0, 1) := by decide +kernel
theorem dX8_weighTrees_94 : decode cX8_weighTrees 94 = .ok (.iconst 1, 1) := by decide +kernel
theorem dX8_weighTrees_95 : decode cX8_weighTrees 95 = .ok (.putfield 110, 3) := by decide +kernel
theorem dX8_weighTrees_98 : decode cX8_weighTrees 98 = .ok (.return_, 1) := by decide +kernel
theorem dX8_fewestChanges_0 : decode cX8_fewestChanges 0 = .ok (.iconst 0, 1) := by decide +kernel
theorem dX8_fewestChanges_1 : decode cX8_fewestChanges 1 = .ok (.istore_n 1, 1) := by decide +kernel
theorem dX8_fewestChanges_2 : decode cX8_fewestChanges 2 = .ok (.iload_n 1, 1) := by decide +kernel
theorem dX8_fewestChanges_3 : decode cX8_fewestChanges 3 = .ok (.bipush 48, 2) := by decide +kernel
theorem dX8_fewestChanges_5 : decode cX8_fewestChanges 5 = .ok (.if_icmp .gt 22, 3) := by decide +kernel
theorem dX8_fewestChanges_8 : decode cX8_fewestChanges 8 = .ok (.aload_n 0, 1) := by decide +kernel
theorem dX8_fewestChanges_9 : decode cX8_fewestChanges 9 = .ok (.getfield 72, 3) := by decide +kernel
theorem dX8_fewestChanges_12 : decode cX8_fewestChanges 12 = .ok (.iload_n 1, 1) := by decide +kernel
theorem dX8_fewestChanges_13 : decode cX8_fewestChanges 13 = .ok (.invokevirtual 152, 3) := by decide +kernel
theorem dX8_fewestChanges_16 : decode cX8_fewestChanges 16 = .ok (.ifCond .le 5, 3) := by decide +kernel
theorem dX8_fewestChanges_19 : decode cX8_fewestChanges 19 = .ok (.iload_n 1, 1) := by decide +kernel
theorem dX8_fewestChanges_20 : decode cX8_fewestChanges 20 = .ok (.ireturn, 1) := by decide +kernel
theorem dX8_fewestChanges_21 : decode cX8_fewestChanges 21 = .ok (.iinc 1 1, 3) := by decide +kernel
theorem dX8_fewestChanges_24 : decode cX8_fewestChanges 24 = .ok (.goto (-22), 3) := by decide +kernel
theorem dX8_fewestChanges_27 : decode cX8_fewestChanges 27 = .ok (.iconst 0, 1) := by decide +kernel
theorem dX8_fewestChanges_28 : decode cX8_fewestChanges 28 = .ok (.ireturn, 1) := by decide +kernel
theorem dX8_treeWith_0 : decode cX8_treeWith 0 = .ok (.iload_n 2, 1) := by decide +kernel
theorem dX8_treeWith_1 : decode cX8_treeWith 1 = .ok (.istore_n 3, 1) := by decide +kernel
theorem dX8_treeWith_2 : decode cX8_treeWith 2 = .ok (.aload_n 0, 1) := by decide +kernel
theorem dX8_treeWith_3 : decode cX8_treeWith 3 = .ok (.getfield 19, 3) := by decide +kernel
theorem dX8_treeWith_6 : decode cX8_treeWith 6 = .ok (.getfield 113, 3) := by decide +kernel
theorem dX8_treeWith_9 : decode cX8_treeWith 9 = .ok (.invokestatic 182, 3) := by decide +kernel
theorem dX8_treeWith_12 : decode cX8_treeWith 12 = .ok (.istore 4, 2) := by decide +kernel
theorem dX8_treeWith_14 : decode cX8_treeWith 14 = .ok (.iconst 0, 1) := by decide +kernel
theorem dX8_treeWith_15 : decode cX8_treeWith 15 = .ok (.istore 5, 2) := by decide +kernel
theorem dX8_treeWith_17 : decode cX8_treeWith 17 = .ok (.iload 5, 2) := by decide +kernel
theorem dX8_treeWith_19 : decode cX8_treeWith 19 = .ok (.iload 4, 2) := by decide +kernel
theorem dX8_treeWith_21 : decode cX8_treeWith 21 = .ok (.if_icmp .ge 32, 3) := by decide +kernel
theorem dX8_treeWith_24 : decode cX8_treeWith 24 = .ok (.aload_n 0, 1) := by decide +kernel
theorem dX8_treeWith_25 : decode cX8_treeWith 25 = .ok (.getfield 69, 3) := by decide +kernel
theorem dX8_treeWith_28 : decode cX8_treeWith 28 = .ok (.iload 5, 2) := by decide +kernel
theorem dX8_treeWith_30 : decode cX8_treeWith 30 = .ok (.invokevirtual 152, 3) := by decide +kernel
theorem dX8_treeWith_33 : decode cX8_treeWith 33 = .ok (.iload_n 1, 1) := by decide +kernel
theorem dX8_treeWith_34 : decode cX8_treeWith 34 = .ok (.if_icmp .ne 13, 3) := by decide +kernel
theorem dX8_treeWith_37 : decode cX8_treeWith 37 = .ok (.iload_n 3, 1) := by decide +kernel
theorem dX8_treeWith_38 : decode cX8_treeWith 38 = .ok (.ifCond .ne 6, 3) := by decide +kernel
theorem dX8_treeWith_41 : decode cX8_treeWith 41 = .ok (.iload 5, 2) := by decide +kernel
theorem dX8_treeWith_43 : decode cX8_treeWith 43 = .ok (.ireturn, 1) := by decide +kernel
theorem dX8_treeWith_44 : decode cX8_treeWith 44 = .ok (.iinc 3 (-1), 3) := by decide +kernel
theorem dX8_treeWith_47 : decode cX8_treeWith 47 = .ok (.iinc 5 1, 3) := by decide +kernel
theorem dX8_treeWith_50 : decode cX8_treeWith 50 = .ok (.goto (-33), 3) := by decide +kernel
theorem dX8_treeWith_53 : decode cX8_treeWith 53 = .ok (.bipush (-9), 2) := by decide +kernel
theorem dX8_treeWith_55 : decode cX8_treeWith 55 = .ok (.ireturn, 1) := by decide +kernel
theorem dX8_betterTree_0 : decode cX8_betterTree 0 = .ok (.aload_n 0, 1) := by decide +kernel
